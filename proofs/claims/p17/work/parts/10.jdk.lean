/-! Arrays fill ([II)V -/
set_option maxRecDepth 100000 in
theorem dd_Arrays_fillI_0 : (decode prog_17_method_103_code 0 = .ok (.iconst 0, 1)) ∧ (decode prog_17_method_103_code 1 = .ok (.istore_n 2, 1)) ∧ (decode prog_17_method_103_code 2 = .ok (.aload_n 0, 1)) ∧ (decode prog_17_method_103_code 3 = .ok (.arraylength, 1)) ∧ (decode prog_17_method_103_code 4 = .ok (.istore_n 3, 1)) ∧ (decode prog_17_method_103_code 5 = .ok (.iload_n 2, 1)) ∧ (decode prog_17_method_103_code 6 = .ok (.iload_n 3, 1)) ∧ (decode prog_17_method_103_code 7 = .ok (.if_icmp .ge 13, 3)) ∧ (decode prog_17_method_103_code 10 = .ok (.aload_n 0, 1)) ∧ (decode prog_17_method_103_code 11 = .ok (.iload_n 2, 1)) ∧ (decode prog_17_method_103_code 12 = .ok (.iload_n 1, 1)) ∧ (decode prog_17_method_103_code 13 = .ok (.iastore, 1)) ∧ (decode prog_17_method_103_code 14 = .ok (.iinc 2 1, 3)) ∧ (decode prog_17_method_103_code 17 = .ok (.goto (-12), 3)) ∧ (decode prog_17_method_103_code 20 = .ok (.return_, 1)) := by
  have h : List.drop 0 prog_17_method_103_code.data.toList = 0x03 :: _ := rfl
  refine ⟨zq_k_n 3 h rfl (zq_o_3 _), ?_⟩
  replace h := zq_nx1 (q := 1) h rfl
  refine ⟨zq_k_n 61 h rfl (zq_o_61 _), ?_⟩
  replace h := zq_nx1 (q := 2) h rfl
  refine ⟨zq_k_n 42 h rfl (zq_o_42 _), ?_⟩
  replace h := zq_nx1 (q := 3) h rfl
  refine ⟨zq_k_n 190 h rfl (zq_o_190 _), ?_⟩
  replace h := zq_nx1 (q := 4) h rfl
  refine ⟨zq_k_n 62 h rfl (zq_o_62 _), ?_⟩
  replace h := zq_nx1 (q := 5) h rfl
  refine ⟨zq_k_n 28 h rfl (zq_o_28 _), ?_⟩
  replace h := zq_nx1 (q := 6) h rfl
  refine ⟨zq_k_n 29 h rfl (zq_o_29 _), ?_⟩
  replace h := zq_nx1 (q := 7) h rfl
  refine ⟨zq_k_s2 162 (fun z => .if_icmp .ge z) 13 h rfl (zq_o_162 _) (by decide +kernel), ?_⟩
  replace h := zq_nx3 (q := 10) h rfl
  refine ⟨zq_k_n 42 h rfl (zq_o_42 _), ?_⟩
  replace h := zq_nx1 (q := 11) h rfl
  refine ⟨zq_k_n 28 h rfl (zq_o_28 _), ?_⟩
  replace h := zq_nx1 (q := 12) h rfl
  refine ⟨zq_k_n 27 h rfl (zq_o_27 _), ?_⟩
  replace h := zq_nx1 (q := 13) h rfl
  refine ⟨zq_k_n 79 h rfl (zq_o_79 _), ?_⟩
  replace h := zq_nx1 (q := 14) h rfl
  refine ⟨zq_k_iinc 2 1 h rfl (zq_o_132 _) (by decide +kernel) (by decide +kernel), ?_⟩
  replace h := zq_nx3 (q := 17) h rfl
  refine ⟨zq_k_s2 167 (fun z => .goto z) (-12) h rfl (zq_o_167 _) (by decide +kernel), ?_⟩
  replace h := zq_nx3 (q := 20) h rfl
  exact zq_k_n 177 h rfl (zq_o_177 _)
theorem d_Arrays_fillI_0 : decode prog_17_method_103_code 0 = .ok (.iconst 0, 1) := dd_Arrays_fillI_0.1
theorem d_Arrays_fillI_1 : decode prog_17_method_103_code 1 = .ok (.istore_n 2, 1) := dd_Arrays_fillI_0.2.1
theorem d_Arrays_fillI_2 : decode prog_17_method_103_code 2 = .ok (.aload_n 0, 1) := dd_Arrays_fillI_0.2.2.1
theorem d_Arrays_fillI_3 : decode prog_17_method_103_code 3 = .ok (.arraylength, 1) := dd_Arrays_fillI_0.2.2.2.1
theorem d_Arrays_fillI_4 : decode prog_17_method_103_code 4 = .ok (.istore_n 3, 1) := dd_Arrays_fillI_0.2.2.2.2.1
theorem d_Arrays_fillI_5 : decode prog_17_method_103_code 5 = .ok (.iload_n 2, 1) := dd_Arrays_fillI_0.2.2.2.2.2.1
theorem d_Arrays_fillI_6 : decode prog_17_method_103_code 6 = .ok (.iload_n 3, 1) := dd_Arrays_fillI_0.2.2.2.2.2.2.1
theorem d_Arrays_fillI_7 : decode prog_17_method_103_code 7 = .ok (.if_icmp .ge 13, 3) := dd_Arrays_fillI_0.2.2.2.2.2.2.2.1
theorem d_Arrays_fillI_10 : decode prog_17_method_103_code 10 = .ok (.aload_n 0, 1) := dd_Arrays_fillI_0.2.2.2.2.2.2.2.2.1
theorem d_Arrays_fillI_11 : decode prog_17_method_103_code 11 = .ok (.iload_n 2, 1) := dd_Arrays_fillI_0.2.2.2.2.2.2.2.2.2.1
theorem d_Arrays_fillI_12 : decode prog_17_method_103_code 12 = .ok (.iload_n 1, 1) := dd_Arrays_fillI_0.2.2.2.2.2.2.2.2.2.2.1
theorem d_Arrays_fillI_13 : decode prog_17_method_103_code 13 = .ok (.iastore, 1) := dd_Arrays_fillI_0.2.2.2.2.2.2.2.2.2.2.2.1
theorem d_Arrays_fillI_14 : decode prog_17_method_103_code 14 = .ok (.iinc 2 1, 3) := dd_Arrays_fillI_0.2.2.2.2.2.2.2.2.2.2.2.2.1
theorem d_Arrays_fillI_17 : decode prog_17_method_103_code 17 = .ok (.goto (-12), 3) := dd_Arrays_fillI_0.2.2.2.2.2.2.2.2.2.2.2.2.2.1
theorem d_Arrays_fillI_20 : decode prog_17_method_103_code 20 = .ok (.return_, 1) := dd_Arrays_fillI_0.2.2.2.2.2.2.2.2.2.2.2.2.2.2
def f_Arrays_fillI_5b (rec5 : Nat → Int32 → Int32 → Int32 → mH → Option mH) (b0 : Nat) (b1 : Int32) (b2 : Int32) (b3 : Int32) (h : mH) : Option mH :=
  if b3 ≤ b2 then
    some h
  else
    bd1 (sI h 0 b0 b2 b1) fun h3 =>
    rec5 b0 b1 (b2 + (1 : Int32)) b3 h3
set_option maxRecDepth 20000 in
theorem t_Arrays_fillI_5b {sc : Nat × (Nat → Int32)} (rec5 : Nat → Int32 → Int32 → Int32 → mH → Option mH) (hrec5 : ∀ (b0 : Nat) (b1 : Int32) (b2 : Int32) (b3 : Int32) (h : mH) (h' : mH), rec5 b0 b1 b2 b3 h = some h' → G sc y_Arrays_fillI prog_17_method_103_code 4 none 0 0 5 [(0, .ref b0), (1, .int b1), (2, .int b2), (3, .int b3)] [] h none h') (b0 : Nat) (b1 : Int32) (b2 : Int32) (b3 : Int32) (h : mH) (h' : mH) (hf : f_Arrays_fillI_5b rec5 b0 b1 b2 b3 h = some h') : G sc y_Arrays_fillI prog_17_method_103_code 4 none 0 0 5 [(0, .ref b0), (1, .int b1), (2, .int b2), (3, .int b3)] [] h none h' := by
  unfold f_Arrays_fillI_5b at hf
  refine g_iload_n (pc := 5) 2 d_Arrays_fillI_5 rfl rfl ?_
  refine g_iload_n (pc := 6) 3 d_Arrays_fillI_6 rfl rfl ?_
  refine g_icmpge (pc := 7) 20 d_Arrays_fillI_7 (by decide) (fun c5 => ?_) (fun c5 => ?_)
  · replace hf := (if_pos c5).symm.trans hf
    obtain rfl := ret1 hf
    exact g_vret (pc := 20) rfl d_Arrays_fillI_20
  · replace hf := (if_neg c5).symm.trans hf
    refine g_aload_n (pc := 10) 0 d_Arrays_fillI_10 rfl rfl ?_
    refine g_iload_n (pc := 11) 2 d_Arrays_fillI_11 rfl rfl ?_
    refine g_iload_n (pc := 12) 1 d_Arrays_fillI_12 rfl rfl ?_
    obtain ⟨h3, e4, hf⟩ := bd1_e hf
    refine g_iast (pc := 13) d_Arrays_fillI_13 e4 ?_
    refine g_iinc (pc := 14) 2 (b2 + (1 : Int32)) [(2, .int (b2 + (1 : Int32))), (0, .ref b0), (1, .int b1), (3, .int b3)] d_Arrays_fillI_14 rfl rfl (Nat.le_of_ble_eq_true rfl) rfl ?_
    refine g_goto (pc := 17) 5 d_Arrays_fillI_17 (by decide) ?_
    refine g_lv [1, 2, 0, 3] rfl ?_
    exact hrec5 _ _ _ _ _ _  hf
def f_Arrays_fillI_5  : Nat → Nat → Int32 → Int32 → Int32 → mH → Option mH
  | 0 => fun _ _ _ _ _ => none
  | n + 1 => f_Arrays_fillI_5b  (f_Arrays_fillI_5  n)
theorem t_Arrays_fillI_5 {sc : Nat × (Nat → Int32)}  : ∀ (n : Nat) (b0 : Nat) (b1 : Int32) (b2 : Int32) (b3 : Int32) (h : mH) (h' : mH) (hf : f_Arrays_fillI_5  n b0 b1 b2 b3 h = some h'), G sc y_Arrays_fillI prog_17_method_103_code 4 none 0 0 5 [(0, .ref b0), (1, .int b1), (2, .int b2), (3, .int b3)] [] h none h'
  | 0, _, _, _, _, _, _, hf => by cases hf
  | n + 1, _, _, _, _, _, _, hf => t_Arrays_fillI_5b  (f_Arrays_fillI_5  n) (t_Arrays_fillI_5  n) _ _ _ _ _ _ hf
def f_Arrays_fillI_0  (a0 : Nat) (a1 : Int32) (h : mH) : Option mH :=
  bd1 (aN h 0 a0) fun x1 =>
  f_Arrays_fillI_5  FU a0 a1 (0 : Int32) x1 h
set_option maxRecDepth 20000 in
theorem t_Arrays_fillI_0 {sc : Nat × (Nat → Int32)}  (a0 : Nat) (a1 : Int32) (h : mH) (h' : mH) (hf : f_Arrays_fillI_0  a0 a1 h = some h') : G sc y_Arrays_fillI prog_17_method_103_code 4 none 0 0 0 [(0, .ref a0), (1, .int a1)] [] h none h' := by
  unfold f_Arrays_fillI_0 at hf
  refine g_iconst (pc := 0) (0 : Int32) d_Arrays_fillI_0 (by decide) ?_
  refine g_istore_n (pc := 1) [(2, .int (0 : Int32)), (0, .ref a0), (1, .int a1)] d_Arrays_fillI_1 rfl (Nat.le_of_ble_eq_true rfl) rfl ?_
  refine g_aload_n (pc := 2) 1 d_Arrays_fillI_2 rfl rfl ?_
  obtain ⟨x1, e2, hf⟩ := bd1_e hf
  refine g_alen (pc := 3) (.int) d_Arrays_fillI_3 (fun _ => rfl) e2 ?_
  refine g_istore_n (pc := 4) [(3, .int x1), (2, .int (0 : Int32)), (0, .ref a0), (1, .int a1)] d_Arrays_fillI_4 rfl (Nat.le_of_ble_eq_true rfl) rfl ?_
  refine g_lv [2, 3, 1, 0] rfl ?_
  exact t_Arrays_fillI_5  FU _ _ _ _ _ _  hf
def f_Arrays_fillI (a0 : Nat) (a1 : Int32) (h : mH) : Option mH := f_Arrays_fillI_0 a0 a1 h
theorem c_Arrays_fillI {sc : Nat × (Nat → Int32)} {a0 : Nat} {a1 : Int32} {h : mH} {h' : mH} (hf : f_Arrays_fillI a0 a1 h = some h') : MM sc y_Arrays_fillI prog_17_method_103_code 4 none 0 0 [.ref a0, .int a1] h none h' :=
  mm_of_G (by decide) (Nat.le_of_ble_eq_true rfl) (t_Arrays_fillI_0 _ _ _ _ hf)
/-! Integer bitCount (I)I -/
set_option maxRecDepth 100000 in
theorem dd_Integer_bitCount_0 : (decode prog_11_method_49_code 0 = .ok (.iload_n 0, 1)) ∧ (decode prog_11_method_49_code 1 = .ok (.iload_n 0, 1)) ∧ (decode prog_11_method_49_code 2 = .ok (.iconst 1, 1)) ∧ (decode prog_11_method_49_code 3 = .ok (.iushr, 1)) ∧ (decode prog_11_method_49_code 4 = .ok (.ldc_w 265, 3)) ∧ (decode prog_11_method_49_code 7 = .ok (.iand, 1)) ∧ (decode prog_11_method_49_code 8 = .ok (.isub, 1)) ∧ (decode prog_11_method_49_code 9 = .ok (.istore_n 0, 1)) ∧ (decode prog_11_method_49_code 10 = .ok (.iload_n 0, 1)) ∧ (decode prog_11_method_49_code 11 = .ok (.ldc_w 266, 3)) ∧ (decode prog_11_method_49_code 14 = .ok (.iand, 1)) ∧ (decode prog_11_method_49_code 15 = .ok (.iload_n 0, 1)) ∧ (decode prog_11_method_49_code 16 = .ok (.iconst 2, 1)) ∧ (decode prog_11_method_49_code 17 = .ok (.iushr, 1)) ∧ (decode prog_11_method_49_code 18 = .ok (.ldc_w 266, 3)) ∧ (decode prog_11_method_49_code 21 = .ok (.iand, 1)) ∧ (decode prog_11_method_49_code 22 = .ok (.iadd, 1)) ∧ (decode prog_11_method_49_code 23 = .ok (.istore_n 0, 1)) ∧ (decode prog_11_method_49_code 24 = .ok (.iload_n 0, 1)) ∧ (decode prog_11_method_49_code 25 = .ok (.iload_n 0, 1)) ∧ (decode prog_11_method_49_code 26 = .ok (.iconst 4, 1)) ∧ (decode prog_11_method_49_code 27 = .ok (.iushr, 1)) ∧ (decode prog_11_method_49_code 28 = .ok (.iadd, 1)) ∧ (decode prog_11_method_49_code 29 = .ok (.ldc_w 267, 3)) := by
  have h : List.drop 0 prog_11_method_49_code.data.toList = 0x1a :: _ := rfl
  refine ⟨zq_k_n 26 h rfl (zq_o_26 _), ?_⟩
  replace h := zq_nx1 (q := 1) h rfl
  refine ⟨zq_k_n 26 h rfl (zq_o_26 _), ?_⟩
  replace h := zq_nx1 (q := 2) h rfl
  refine ⟨zq_k_n 4 h rfl (zq_o_4 _), ?_⟩
  replace h := zq_nx1 (q := 3) h rfl
  refine ⟨zq_k_n 124 h rfl (zq_o_124 _), ?_⟩
  replace h := zq_nx1 (q := 4) h rfl
  refine ⟨zq_k_u2 19 (fun z => .ldc_w z) 265 h rfl (zq_o_19 _) (by decide +kernel), ?_⟩
  replace h := zq_nx3 (q := 7) h rfl
  refine ⟨zq_k_n 126 h rfl (zq_o_126 _), ?_⟩
  replace h := zq_nx1 (q := 8) h rfl
  refine ⟨zq_k_n 100 h rfl (zq_o_100 _), ?_⟩
  replace h := zq_nx1 (q := 9) h rfl
  refine ⟨zq_k_n 59 h rfl (zq_o_59 _), ?_⟩
  replace h := zq_nx1 (q := 10) h rfl
  refine ⟨zq_k_n 26 h rfl (zq_o_26 _), ?_⟩
  replace h := zq_nx1 (q := 11) h rfl
  refine ⟨zq_k_u2 19 (fun z => .ldc_w z) 266 h rfl (zq_o_19 _) (by decide +kernel), ?_⟩
  replace h := zq_nx3 (q := 14) h rfl
  refine ⟨zq_k_n 126 h rfl (zq_o_126 _), ?_⟩
  replace h := zq_nx1 (q := 15) h rfl
  refine ⟨zq_k_n 26 h rfl (zq_o_26 _), ?_⟩
  replace h := zq_nx1 (q := 16) h rfl
  refine ⟨zq_k_n 5 h rfl (zq_o_5 _), ?_⟩
  replace h := zq_nx1 (q := 17) h rfl
  refine ⟨zq_k_n 124 h rfl (zq_o_124 _), ?_⟩
  replace h := zq_nx1 (q := 18) h rfl
  refine ⟨zq_k_u2 19 (fun z => .ldc_w z) 266 h rfl (zq_o_19 _) (by decide +kernel), ?_⟩
  replace h := zq_nx3 (q := 21) h rfl
  refine ⟨zq_k_n 126 h rfl (zq_o_126 _), ?_⟩
  replace h := zq_nx1 (q := 22) h rfl
  refine ⟨zq_k_n 96 h rfl (zq_o_96 _), ?_⟩
  replace h := zq_nx1 (q := 23) h rfl
  refine ⟨zq_k_n 59 h rfl (zq_o_59 _), ?_⟩
  replace h := zq_nx1 (q := 24) h rfl
  refine ⟨zq_k_n 26 h rfl (zq_o_26 _), ?_⟩
  replace h := zq_nx1 (q := 25) h rfl
  refine ⟨zq_k_n 26 h rfl (zq_o_26 _), ?_⟩
  replace h := zq_nx1 (q := 26) h rfl
  refine ⟨zq_k_n 7 h rfl (zq_o_7 _), ?_⟩
  replace h := zq_nx1 (q := 27) h rfl
  refine ⟨zq_k_n 124 h rfl (zq_o_124 _), ?_⟩
  replace h := zq_nx1 (q := 28) h rfl
  refine ⟨zq_k_n 96 h rfl (zq_o_96 _), ?_⟩
  replace h := zq_nx1 (q := 29) h rfl
  exact zq_k_u2 19 (fun z => .ldc_w z) 267 h rfl (zq_o_19 _) (by decide +kernel)
theorem d_Integer_bitCount_0 : decode prog_11_method_49_code 0 = .ok (.iload_n 0, 1) := dd_Integer_bitCount_0.1
theorem d_Integer_bitCount_1 : decode prog_11_method_49_code 1 = .ok (.iload_n 0, 1) := dd_Integer_bitCount_0.2.1
theorem d_Integer_bitCount_2 : decode prog_11_method_49_code 2 = .ok (.iconst 1, 1) := dd_Integer_bitCount_0.2.2.1
theorem d_Integer_bitCount_3 : decode prog_11_method_49_code 3 = .ok (.iushr, 1) := dd_Integer_bitCount_0.2.2.2.1
theorem d_Integer_bitCount_4 : decode prog_11_method_49_code 4 = .ok (.ldc_w 265, 3) := dd_Integer_bitCount_0.2.2.2.2.1
theorem d_Integer_bitCount_7 : decode prog_11_method_49_code 7 = .ok (.iand, 1) := dd_Integer_bitCount_0.2.2.2.2.2.1
theorem d_Integer_bitCount_8 : decode prog_11_method_49_code 8 = .ok (.isub, 1) := dd_Integer_bitCount_0.2.2.2.2.2.2.1
theorem d_Integer_bitCount_9 : decode prog_11_method_49_code 9 = .ok (.istore_n 0, 1) := dd_Integer_bitCount_0.2.2.2.2.2.2.2.1
theorem d_Integer_bitCount_10 : decode prog_11_method_49_code 10 = .ok (.iload_n 0, 1) := dd_Integer_bitCount_0.2.2.2.2.2.2.2.2.1
theorem d_Integer_bitCount_11 : decode prog_11_method_49_code 11 = .ok (.ldc_w 266, 3) := dd_Integer_bitCount_0.2.2.2.2.2.2.2.2.2.1
theorem d_Integer_bitCount_14 : decode prog_11_method_49_code 14 = .ok (.iand, 1) := dd_Integer_bitCount_0.2.2.2.2.2.2.2.2.2.2.1
theorem d_Integer_bitCount_15 : decode prog_11_method_49_code 15 = .ok (.iload_n 0, 1) := dd_Integer_bitCount_0.2.2.2.2.2.2.2.2.2.2.2.1
theorem d_Integer_bitCount_16 : decode prog_11_method_49_code 16 = .ok (.iconst 2, 1) := dd_Integer_bitCount_0.2.2.2.2.2.2.2.2.2.2.2.2.1
theorem d_Integer_bitCount_17 : decode prog_11_method_49_code 17 = .ok (.iushr, 1) := dd_Integer_bitCount_0.2.2.2.2.2.2.2.2.2.2.2.2.2.1
theorem d_Integer_bitCount_18 : decode prog_11_method_49_code 18 = .ok (.ldc_w 266, 3) := dd_Integer_bitCount_0.2.2.2.2.2.2.2.2.2.2.2.2.2.2.1
theorem d_Integer_bitCount_21 : decode prog_11_method_49_code 21 = .ok (.iand, 1) := dd_Integer_bitCount_0.2.2.2.2.2.2.2.2.2.2.2.2.2.2.2.1
theorem d_Integer_bitCount_22 : decode prog_11_method_49_code 22 = .ok (.iadd, 1) := dd_Integer_bitCount_0.2.2.2.2.2.2.2.2.2.2.2.2.2.2.2.2.1
theorem d_Integer_bitCount_23 : decode prog_11_method_49_code 23 = .ok (.istore_n 0, 1) := dd_Integer_bitCount_0.2.2.2.2.2.2.2.2.2.2.2.2.2.2.2.2.2.1
theorem d_Integer_bitCount_24 : decode prog_11_method_49_code 24 = .ok (.iload_n 0, 1) := dd_Integer_bitCount_0.2.2.2.2.2.2.2.2.2.2.2.2.2.2.2.2.2.2.1
theorem d_Integer_bitCount_25 : decode prog_11_method_49_code 25 = .ok (.iload_n 0, 1) := dd_Integer_bitCount_0.2.2.2.2.2.2.2.2.2.2.2.2.2.2.2.2.2.2.2.1
theorem d_Integer_bitCount_26 : decode prog_11_method_49_code 26 = .ok (.iconst 4, 1) := dd_Integer_bitCount_0.2.2.2.2.2.2.2.2.2.2.2.2.2.2.2.2.2.2.2.2.1
theorem d_Integer_bitCount_27 : decode prog_11_method_49_code 27 = .ok (.iushr, 1) := dd_Integer_bitCount_0.2.2.2.2.2.2.2.2.2.2.2.2.2.2.2.2.2.2.2.2.2.1
theorem d_Integer_bitCount_28 : decode prog_11_method_49_code 28 = .ok (.iadd, 1) := dd_Integer_bitCount_0.2.2.2.2.2.2.2.2.2.2.2.2.2.2.2.2.2.2.2.2.2.2.1
theorem d_Integer_bitCount_29 : decode prog_11_method_49_code 29 = .ok (.ldc_w 267, 3) := dd_Integer_bitCount_0.2.2.2.2.2.2.2.2.2.2.2.2.2.2.2.2.2.2.2.2.2.2.2
set_option maxRecDepth 100000 in
theorem dd_Integer_bitCount_32 : (decode prog_11_method_49_code 32 = .ok (.iand, 1)) ∧ (decode prog_11_method_49_code 33 = .ok (.istore_n 0, 1)) ∧ (decode prog_11_method_49_code 34 = .ok (.iload_n 0, 1)) ∧ (decode prog_11_method_49_code 35 = .ok (.iload_n 0, 1)) ∧ (decode prog_11_method_49_code 36 = .ok (.bipush 8, 2)) ∧ (decode prog_11_method_49_code 38 = .ok (.iushr, 1)) ∧ (decode prog_11_method_49_code 39 = .ok (.iadd, 1)) ∧ (decode prog_11_method_49_code 40 = .ok (.istore_n 0, 1)) ∧ (decode prog_11_method_49_code 41 = .ok (.iload_n 0, 1)) ∧ (decode prog_11_method_49_code 42 = .ok (.iload_n 0, 1)) ∧ (decode prog_11_method_49_code 43 = .ok (.bipush 16, 2)) ∧ (decode prog_11_method_49_code 45 = .ok (.iushr, 1)) ∧ (decode prog_11_method_49_code 46 = .ok (.iadd, 1)) ∧ (decode prog_11_method_49_code 47 = .ok (.istore_n 0, 1)) ∧ (decode prog_11_method_49_code 48 = .ok (.iload_n 0, 1)) ∧ (decode prog_11_method_49_code 49 = .ok (.bipush 63, 2)) ∧ (decode prog_11_method_49_code 51 = .ok (.iand, 1)) ∧ (decode prog_11_method_49_code 52 = .ok (.ireturn, 1)) := by
  have h : List.drop 32 prog_11_method_49_code.data.toList = 0x7e :: _ := rfl
  refine ⟨zq_k_n 126 h rfl (zq_o_126 _), ?_⟩
  replace h := zq_nx1 (q := 33) h rfl
  refine ⟨zq_k_n 59 h rfl (zq_o_59 _), ?_⟩
  replace h := zq_nx1 (q := 34) h rfl
  refine ⟨zq_k_n 26 h rfl (zq_o_26 _), ?_⟩
  replace h := zq_nx1 (q := 35) h rfl
  refine ⟨zq_k_n 26 h rfl (zq_o_26 _), ?_⟩
  replace h := zq_nx1 (q := 36) h rfl
  refine ⟨zq_k_s1 16 (fun z => .bipush z) 8 h rfl (zq_o_16 _) (by decide +kernel), ?_⟩
  replace h := zq_nx2 (q := 38) h rfl
  refine ⟨zq_k_n 124 h rfl (zq_o_124 _), ?_⟩
  replace h := zq_nx1 (q := 39) h rfl
  refine ⟨zq_k_n 96 h rfl (zq_o_96 _), ?_⟩
  replace h := zq_nx1 (q := 40) h rfl
  refine ⟨zq_k_n 59 h rfl (zq_o_59 _), ?_⟩
  replace h := zq_nx1 (q := 41) h rfl
  refine ⟨zq_k_n 26 h rfl (zq_o_26 _), ?_⟩
  replace h := zq_nx1 (q := 42) h rfl
  refine ⟨zq_k_n 26 h rfl (zq_o_26 _), ?_⟩
  replace h := zq_nx1 (q := 43) h rfl
  refine ⟨zq_k_s1 16 (fun z => .bipush z) 16 h rfl (zq_o_16 _) (by decide +kernel), ?_⟩
  replace h := zq_nx2 (q := 45) h rfl
  refine ⟨zq_k_n 124 h rfl (zq_o_124 _), ?_⟩
  replace h := zq_nx1 (q := 46) h rfl
  refine ⟨zq_k_n 96 h rfl (zq_o_96 _), ?_⟩
  replace h := zq_nx1 (q := 47) h rfl
  refine ⟨zq_k_n 59 h rfl (zq_o_59 _), ?_⟩
  replace h := zq_nx1 (q := 48) h rfl
  refine ⟨zq_k_n 26 h rfl (zq_o_26 _), ?_⟩
  replace h := zq_nx1 (q := 49) h rfl
  refine ⟨zq_k_s1 16 (fun z => .bipush z) 63 h rfl (zq_o_16 _) (by decide +kernel), ?_⟩
  replace h := zq_nx2 (q := 51) h rfl
  refine ⟨zq_k_n 126 h rfl (zq_o_126 _), ?_⟩
  replace h := zq_nx1 (q := 52) h rfl
  exact zq_k_n 172 h rfl (zq_o_172 _)
theorem d_Integer_bitCount_32 : decode prog_11_method_49_code 32 = .ok (.iand, 1) := dd_Integer_bitCount_32.1
theorem d_Integer_bitCount_33 : decode prog_11_method_49_code 33 = .ok (.istore_n 0, 1) := dd_Integer_bitCount_32.2.1
theorem d_Integer_bitCount_34 : decode prog_11_method_49_code 34 = .ok (.iload_n 0, 1) := dd_Integer_bitCount_32.2.2.1
theorem d_Integer_bitCount_35 : decode prog_11_method_49_code 35 = .ok (.iload_n 0, 1) := dd_Integer_bitCount_32.2.2.2.1
theorem d_Integer_bitCount_36 : decode prog_11_method_49_code 36 = .ok (.bipush 8, 2) := dd_Integer_bitCount_32.2.2.2.2.1
theorem d_Integer_bitCount_38 : decode prog_11_method_49_code 38 = .ok (.iushr, 1) := dd_Integer_bitCount_32.2.2.2.2.2.1
theorem d_Integer_bitCount_39 : decode prog_11_method_49_code 39 = .ok (.iadd, 1) := dd_Integer_bitCount_32.2.2.2.2.2.2.1
theorem d_Integer_bitCount_40 : decode prog_11_method_49_code 40 = .ok (.istore_n 0, 1) := dd_Integer_bitCount_32.2.2.2.2.2.2.2.1
theorem d_Integer_bitCount_41 : decode prog_11_method_49_code 41 = .ok (.iload_n 0, 1) := dd_Integer_bitCount_32.2.2.2.2.2.2.2.2.1
theorem d_Integer_bitCount_42 : decode prog_11_method_49_code 42 = .ok (.iload_n 0, 1) := dd_Integer_bitCount_32.2.2.2.2.2.2.2.2.2.1
theorem d_Integer_bitCount_43 : decode prog_11_method_49_code 43 = .ok (.bipush 16, 2) := dd_Integer_bitCount_32.2.2.2.2.2.2.2.2.2.2.1
theorem d_Integer_bitCount_45 : decode prog_11_method_49_code 45 = .ok (.iushr, 1) := dd_Integer_bitCount_32.2.2.2.2.2.2.2.2.2.2.2.1
theorem d_Integer_bitCount_46 : decode prog_11_method_49_code 46 = .ok (.iadd, 1) := dd_Integer_bitCount_32.2.2.2.2.2.2.2.2.2.2.2.2.1
theorem d_Integer_bitCount_47 : decode prog_11_method_49_code 47 = .ok (.istore_n 0, 1) := dd_Integer_bitCount_32.2.2.2.2.2.2.2.2.2.2.2.2.2.1
theorem d_Integer_bitCount_48 : decode prog_11_method_49_code 48 = .ok (.iload_n 0, 1) := dd_Integer_bitCount_32.2.2.2.2.2.2.2.2.2.2.2.2.2.2.1
theorem d_Integer_bitCount_49 : decode prog_11_method_49_code 49 = .ok (.bipush 63, 2) := dd_Integer_bitCount_32.2.2.2.2.2.2.2.2.2.2.2.2.2.2.2.1
theorem d_Integer_bitCount_51 : decode prog_11_method_49_code 51 = .ok (.iand, 1) := dd_Integer_bitCount_32.2.2.2.2.2.2.2.2.2.2.2.2.2.2.2.2.1
theorem d_Integer_bitCount_52 : decode prog_11_method_49_code 52 = .ok (.ireturn, 1) := dd_Integer_bitCount_32.2.2.2.2.2.2.2.2.2.2.2.2.2.2.2.2.2
def f_Integer_bitCount_0  (a0 : Int32) (h : mH) : Option (Int32 × mH) :=
  some ((((((((a0 - (((a0.toUInt32 >>> ((1 : Int32).toUInt32 &&& Int32.toUInt32 31)).toInt32) &&& (1431655765 : Int32))) &&& (858993459 : Int32)) + ((((a0 - (((a0.toUInt32 >>> ((1 : Int32).toUInt32 &&& Int32.toUInt32 31)).toInt32) &&& (1431655765 : Int32))).toUInt32 >>> ((2 : Int32).toUInt32 &&& Int32.toUInt32 31)).toInt32) &&& (858993459 : Int32))) + (((((a0 - (((a0.toUInt32 >>> ((1 : Int32).toUInt32 &&& Int32.toUInt32 31)).toInt32) &&& (1431655765 : Int32))) &&& (858993459 : Int32)) + ((((a0 - (((a0.toUInt32 >>> ((1 : Int32).toUInt32 &&& Int32.toUInt32 31)).toInt32) &&& (1431655765 : Int32))).toUInt32 >>> ((2 : Int32).toUInt32 &&& Int32.toUInt32 31)).toInt32) &&& (858993459 : Int32))).toUInt32 >>> ((4 : Int32).toUInt32 &&& Int32.toUInt32 31)).toInt32)) &&& (252645135 : Int32)) + (((((((a0 - (((a0.toUInt32 >>> ((1 : Int32).toUInt32 &&& Int32.toUInt32 31)).toInt32) &&& (1431655765 : Int32))) &&& (858993459 : Int32)) + ((((a0 - (((a0.toUInt32 >>> ((1 : Int32).toUInt32 &&& Int32.toUInt32 31)).toInt32) &&& (1431655765 : Int32))).toUInt32 >>> ((2 : Int32).toUInt32 &&& Int32.toUInt32 31)).toInt32) &&& (858993459 : Int32))) + (((((a0 - (((a0.toUInt32 >>> ((1 : Int32).toUInt32 &&& Int32.toUInt32 31)).toInt32) &&& (1431655765 : Int32))) &&& (858993459 : Int32)) + ((((a0 - (((a0.toUInt32 >>> ((1 : Int32).toUInt32 &&& Int32.toUInt32 31)).toInt32) &&& (1431655765 : Int32))).toUInt32 >>> ((2 : Int32).toUInt32 &&& Int32.toUInt32 31)).toInt32) &&& (858993459 : Int32))).toUInt32 >>> ((4 : Int32).toUInt32 &&& Int32.toUInt32 31)).toInt32)) &&& (252645135 : Int32)).toUInt32 >>> ((8 : Int32).toUInt32 &&& Int32.toUInt32 31)).toInt32)) + ((((((((a0 - (((a0.toUInt32 >>> ((1 : Int32).toUInt32 &&& Int32.toUInt32 31)).toInt32) &&& (1431655765 : Int32))) &&& (858993459 : Int32)) + ((((a0 - (((a0.toUInt32 >>> ((1 : Int32).toUInt32 &&& Int32.toUInt32 31)).toInt32) &&& (1431655765 : Int32))).toUInt32 >>> ((2 : Int32).toUInt32 &&& Int32.toUInt32 31)).toInt32) &&& (858993459 : Int32))) + (((((a0 - (((a0.toUInt32 >>> ((1 : Int32).toUInt32 &&& Int32.toUInt32 31)).toInt32) &&& (1431655765 : Int32))) &&& (858993459 : Int32)) + ((((a0 - (((a0.toUInt32 >>> ((1 : Int32).toUInt32 &&& Int32.toUInt32 31)).toInt32) &&& (1431655765 : Int32))).toUInt32 >>> ((2 : Int32).toUInt32 &&& Int32.toUInt32 31)).toInt32) &&& (858993459 : Int32))).toUInt32 >>> ((4 : Int32).toUInt32 &&& Int32.toUInt32 31)).toInt32)) &&& (252645135 : Int32)) + (((((((a0 - (((a0.toUInt32 >>> ((1 : Int32).toUInt32 &&& Int32.toUInt32 31)).toInt32) &&& (1431655765 : Int32))) &&& (858993459 : Int32)) + ((((a0 - (((a0.toUInt32 >>> ((1 : Int32).toUInt32 &&& Int32.toUInt32 31)).toInt32) &&& (1431655765 : Int32))).toUInt32 >>> ((2 : Int32).toUInt32 &&& Int32.toUInt32 31)).toInt32) &&& (858993459 : Int32))) + (((((a0 - (((a0.toUInt32 >>> ((1 : Int32).toUInt32 &&& Int32.toUInt32 31)).toInt32) &&& (1431655765 : Int32))) &&& (858993459 : Int32)) + ((((a0 - (((a0.toUInt32 >>> ((1 : Int32).toUInt32 &&& Int32.toUInt32 31)).toInt32) &&& (1431655765 : Int32))).toUInt32 >>> ((2 : Int32).toUInt32 &&& Int32.toUInt32 31)).toInt32) &&& (858993459 : Int32))).toUInt32 >>> ((4 : Int32).toUInt32 &&& Int32.toUInt32 31)).toInt32)) &&& (252645135 : Int32)).toUInt32 >>> ((8 : Int32).toUInt32 &&& Int32.toUInt32 31)).toInt32)).toUInt32 >>> ((16 : Int32).toUInt32 &&& Int32.toUInt32 31)).toInt32)) &&& (63 : Int32), h)
set_option maxRecDepth 20000 in
theorem t_Integer_bitCount_0 {sc : Nat × (Nat → Int32)}  (a0 : Int32) (h : mH) (r : Int32) (h' : mH) (hf : f_Integer_bitCount_0  a0 h = some (r, h')) : G sc y_Integer_bitCount prog_11_method_49_code 1 (some .int) 0 0 0 [(0, .int a0)] [] h (some (.int r)) h' := by
  unfold f_Integer_bitCount_0 at hf
  refine g_iload_n (pc := 0) 0 d_Integer_bitCount_0 rfl rfl ?_
  refine g_iload_n (pc := 1) 0 d_Integer_bitCount_1 rfl rfl ?_
  refine g_iconst (pc := 2) (1 : Int32) d_Integer_bitCount_2 (by decide) ?_
  refine g_iushr (pc := 3) d_Integer_bitCount_3 ?_
  refine g_ldcw (pc := 4) (1431655765 : Int32) d_Integer_bitCount_4 wd_618 ?_
  refine g_iand (pc := 7) d_Integer_bitCount_7 ?_
  refine g_isub (pc := 8) d_Integer_bitCount_8 ?_
  refine g_istore_n (pc := 9) [(0, .int (a0 - (((a0.toUInt32 >>> ((1 : Int32).toUInt32 &&& Int32.toUInt32 31)).toInt32) &&& (1431655765 : Int32))))] d_Integer_bitCount_9 rfl (Nat.le_of_ble_eq_true rfl) rfl ?_
  refine g_iload_n (pc := 10) 0 d_Integer_bitCount_10 rfl rfl ?_
  refine g_ldcw (pc := 11) (858993459 : Int32) d_Integer_bitCount_11 wd_619 ?_
  refine g_iand (pc := 14) d_Integer_bitCount_14 ?_
  refine g_iload_n (pc := 15) 0 d_Integer_bitCount_15 rfl rfl ?_
  refine g_iconst (pc := 16) (2 : Int32) d_Integer_bitCount_16 (by decide) ?_
  refine g_iushr (pc := 17) d_Integer_bitCount_17 ?_
  refine g_ldcw (pc := 18) (858993459 : Int32) d_Integer_bitCount_18 wd_619 ?_
  refine g_iand (pc := 21) d_Integer_bitCount_21 ?_
  refine g_iadd (pc := 22) d_Integer_bitCount_22 ?_
  refine g_istore_n (pc := 23) [(0, .int (((a0 - (((a0.toUInt32 >>> ((1 : Int32).toUInt32 &&& Int32.toUInt32 31)).toInt32) &&& (1431655765 : Int32))) &&& (858993459 : Int32)) + ((((a0 - (((a0.toUInt32 >>> ((1 : Int32).toUInt32 &&& Int32.toUInt32 31)).toInt32) &&& (1431655765 : Int32))).toUInt32 >>> ((2 : Int32).toUInt32 &&& Int32.toUInt32 31)).toInt32) &&& (858993459 : Int32))))] d_Integer_bitCount_23 rfl (Nat.le_of_ble_eq_true rfl) rfl ?_
  refine g_iload_n (pc := 24) 0 d_Integer_bitCount_24 rfl rfl ?_
  refine g_iload_n (pc := 25) 0 d_Integer_bitCount_25 rfl rfl ?_
  refine g_iconst (pc := 26) (4 : Int32) d_Integer_bitCount_26 (by decide) ?_
  refine g_iushr (pc := 27) d_Integer_bitCount_27 ?_
  refine g_iadd (pc := 28) d_Integer_bitCount_28 ?_
  refine g_ldcw (pc := 29) (252645135 : Int32) d_Integer_bitCount_29 wd_620 ?_
  refine g_iand (pc := 32) d_Integer_bitCount_32 ?_
  refine g_istore_n (pc := 33) [(0, .int (((((a0 - (((a0.toUInt32 >>> ((1 : Int32).toUInt32 &&& Int32.toUInt32 31)).toInt32) &&& (1431655765 : Int32))) &&& (858993459 : Int32)) + ((((a0 - (((a0.toUInt32 >>> ((1 : Int32).toUInt32 &&& Int32.toUInt32 31)).toInt32) &&& (1431655765 : Int32))).toUInt32 >>> ((2 : Int32).toUInt32 &&& Int32.toUInt32 31)).toInt32) &&& (858993459 : Int32))) + (((((a0 - (((a0.toUInt32 >>> ((1 : Int32).toUInt32 &&& Int32.toUInt32 31)).toInt32) &&& (1431655765 : Int32))) &&& (858993459 : Int32)) + ((((a0 - (((a0.toUInt32 >>> ((1 : Int32).toUInt32 &&& Int32.toUInt32 31)).toInt32) &&& (1431655765 : Int32))).toUInt32 >>> ((2 : Int32).toUInt32 &&& Int32.toUInt32 31)).toInt32) &&& (858993459 : Int32))).toUInt32 >>> ((4 : Int32).toUInt32 &&& Int32.toUInt32 31)).toInt32)) &&& (252645135 : Int32)))] d_Integer_bitCount_33 rfl (Nat.le_of_ble_eq_true rfl) rfl ?_
  refine g_iload_n (pc := 34) 0 d_Integer_bitCount_34 rfl rfl ?_
  refine g_iload_n (pc := 35) 0 d_Integer_bitCount_35 rfl rfl ?_
  refine g_bipush (pc := 36) (8 : Int32) d_Integer_bitCount_36 (by decide) ?_
  refine g_iushr (pc := 38) d_Integer_bitCount_38 ?_
  refine g_iadd (pc := 39) d_Integer_bitCount_39 ?_
  refine g_istore_n (pc := 40) [(0, .int ((((((a0 - (((a0.toUInt32 >>> ((1 : Int32).toUInt32 &&& Int32.toUInt32 31)).toInt32) &&& (1431655765 : Int32))) &&& (858993459 : Int32)) + ((((a0 - (((a0.toUInt32 >>> ((1 : Int32).toUInt32 &&& Int32.toUInt32 31)).toInt32) &&& (1431655765 : Int32))).toUInt32 >>> ((2 : Int32).toUInt32 &&& Int32.toUInt32 31)).toInt32) &&& (858993459 : Int32))) + (((((a0 - (((a0.toUInt32 >>> ((1 : Int32).toUInt32 &&& Int32.toUInt32 31)).toInt32) &&& (1431655765 : Int32))) &&& (858993459 : Int32)) + ((((a0 - (((a0.toUInt32 >>> ((1 : Int32).toUInt32 &&& Int32.toUInt32 31)).toInt32) &&& (1431655765 : Int32))).toUInt32 >>> ((2 : Int32).toUInt32 &&& Int32.toUInt32 31)).toInt32) &&& (858993459 : Int32))).toUInt32 >>> ((4 : Int32).toUInt32 &&& Int32.toUInt32 31)).toInt32)) &&& (252645135 : Int32)) + (((((((a0 - (((a0.toUInt32 >>> ((1 : Int32).toUInt32 &&& Int32.toUInt32 31)).toInt32) &&& (1431655765 : Int32))) &&& (858993459 : Int32)) + ((((a0 - (((a0.toUInt32 >>> ((1 : Int32).toUInt32 &&& Int32.toUInt32 31)).toInt32) &&& (1431655765 : Int32))).toUInt32 >>> ((2 : Int32).toUInt32 &&& Int32.toUInt32 31)).toInt32) &&& (858993459 : Int32))) + (((((a0 - (((a0.toUInt32 >>> ((1 : Int32).toUInt32 &&& Int32.toUInt32 31)).toInt32) &&& (1431655765 : Int32))) &&& (858993459 : Int32)) + ((((a0 - (((a0.toUInt32 >>> ((1 : Int32).toUInt32 &&& Int32.toUInt32 31)).toInt32) &&& (1431655765 : Int32))).toUInt32 >>> ((2 : Int32).toUInt32 &&& Int32.toUInt32 31)).toInt32) &&& (858993459 : Int32))).toUInt32 >>> ((4 : Int32).toUInt32 &&& Int32.toUInt32 31)).toInt32)) &&& (252645135 : Int32)).toUInt32 >>> ((8 : Int32).toUInt32 &&& Int32.toUInt32 31)).toInt32)))] d_Integer_bitCount_40 rfl (Nat.le_of_ble_eq_true rfl) rfl ?_
  refine g_iload_n (pc := 41) 0 d_Integer_bitCount_41 rfl rfl ?_
  refine g_iload_n (pc := 42) 0 d_Integer_bitCount_42 rfl rfl ?_
  refine g_bipush (pc := 43) (16 : Int32) d_Integer_bitCount_43 (by decide) ?_
  refine g_iushr (pc := 45) d_Integer_bitCount_45 ?_
  refine g_iadd (pc := 46) d_Integer_bitCount_46 ?_
  refine g_istore_n (pc := 47) [(0, .int (((((((a0 - (((a0.toUInt32 >>> ((1 : Int32).toUInt32 &&& Int32.toUInt32 31)).toInt32) &&& (1431655765 : Int32))) &&& (858993459 : Int32)) + ((((a0 - (((a0.toUInt32 >>> ((1 : Int32).toUInt32 &&& Int32.toUInt32 31)).toInt32) &&& (1431655765 : Int32))).toUInt32 >>> ((2 : Int32).toUInt32 &&& Int32.toUInt32 31)).toInt32) &&& (858993459 : Int32))) + (((((a0 - (((a0.toUInt32 >>> ((1 : Int32).toUInt32 &&& Int32.toUInt32 31)).toInt32) &&& (1431655765 : Int32))) &&& (858993459 : Int32)) + ((((a0 - (((a0.toUInt32 >>> ((1 : Int32).toUInt32 &&& Int32.toUInt32 31)).toInt32) &&& (1431655765 : Int32))).toUInt32 >>> ((2 : Int32).toUInt32 &&& Int32.toUInt32 31)).toInt32) &&& (858993459 : Int32))).toUInt32 >>> ((4 : Int32).toUInt32 &&& Int32.toUInt32 31)).toInt32)) &&& (252645135 : Int32)) + (((((((a0 - (((a0.toUInt32 >>> ((1 : Int32).toUInt32 &&& Int32.toUInt32 31)).toInt32) &&& (1431655765 : Int32))) &&& (858993459 : Int32)) + ((((a0 - (((a0.toUInt32 >>> ((1 : Int32).toUInt32 &&& Int32.toUInt32 31)).toInt32) &&& (1431655765 : Int32))).toUInt32 >>> ((2 : Int32).toUInt32 &&& Int32.toUInt32 31)).toInt32) &&& (858993459 : Int32))) + (((((a0 - (((a0.toUInt32 >>> ((1 : Int32).toUInt32 &&& Int32.toUInt32 31)).toInt32) &&& (1431655765 : Int32))) &&& (858993459 : Int32)) + ((((a0 - (((a0.toUInt32 >>> ((1 : Int32).toUInt32 &&& Int32.toUInt32 31)).toInt32) &&& (1431655765 : Int32))).toUInt32 >>> ((2 : Int32).toUInt32 &&& Int32.toUInt32 31)).toInt32) &&& (858993459 : Int32))).toUInt32 >>> ((4 : Int32).toUInt32 &&& Int32.toUInt32 31)).toInt32)) &&& (252645135 : Int32)).toUInt32 >>> ((8 : Int32).toUInt32 &&& Int32.toUInt32 31)).toInt32)) + ((((((((a0 - (((a0.toUInt32 >>> ((1 : Int32).toUInt32 &&& Int32.toUInt32 31)).toInt32) &&& (1431655765 : Int32))) &&& (858993459 : Int32)) + ((((a0 - (((a0.toUInt32 >>> ((1 : Int32).toUInt32 &&& Int32.toUInt32 31)).toInt32) &&& (1431655765 : Int32))).toUInt32 >>> ((2 : Int32).toUInt32 &&& Int32.toUInt32 31)).toInt32) &&& (858993459 : Int32))) + (((((a0 - (((a0.toUInt32 >>> ((1 : Int32).toUInt32 &&& Int32.toUInt32 31)).toInt32) &&& (1431655765 : Int32))) &&& (858993459 : Int32)) + ((((a0 - (((a0.toUInt32 >>> ((1 : Int32).toUInt32 &&& Int32.toUInt32 31)).toInt32) &&& (1431655765 : Int32))).toUInt32 >>> ((2 : Int32).toUInt32 &&& Int32.toUInt32 31)).toInt32) &&& (858993459 : Int32))).toUInt32 >>> ((4 : Int32).toUInt32 &&& Int32.toUInt32 31)).toInt32)) &&& (252645135 : Int32)) + (((((((a0 - (((a0.toUInt32 >>> ((1 : Int32).toUInt32 &&& Int32.toUInt32 31)).toInt32) &&& (1431655765 : Int32))) &&& (858993459 : Int32)) + ((((a0 - (((a0.toUInt32 >>> ((1 : Int32).toUInt32 &&& Int32.toUInt32 31)).toInt32) &&& (1431655765 : Int32))).toUInt32 >>> ((2 : Int32).toUInt32 &&& Int32.toUInt32 31)).toInt32) &&& (858993459 : Int32))) + (((((a0 - (((a0.toUInt32 >>> ((1 : Int32).toUInt32 &&& Int32.toUInt32 31)).toInt32) &&& (1431655765 : Int32))) &&& (858993459 : Int32)) + ((((a0 - (((a0.toUInt32 >>> ((1 : Int32).toUInt32 &&& Int32.toUInt32 31)).toInt32) &&& (1431655765 : Int32))).toUInt32 >>> ((2 : Int32).toUInt32 &&& Int32.toUInt32 31)).toInt32) &&& (858993459 : Int32))).toUInt32 >>> ((4 : Int32).toUInt32 &&& Int32.toUInt32 31)).toInt32)) &&& (252645135 : Int32)).toUInt32 >>> ((8 : Int32).toUInt32 &&& Int32.toUInt32 31)).toInt32)).toUInt32 >>> ((16 : Int32).toUInt32 &&& Int32.toUInt32 31)).toInt32)))] d_Integer_bitCount_47 rfl (Nat.le_of_ble_eq_true rfl) rfl ?_
  refine g_iload_n (pc := 48) 0 d_Integer_bitCount_48 rfl rfl ?_
  refine g_bipush (pc := 49) (63 : Int32) d_Integer_bitCount_49 (by decide) ?_
  refine g_iand (pc := 51) d_Integer_bitCount_51 ?_
  obtain ⟨rfl, rfl⟩ := ret2 hf
  exact g_iret (pc := 52) rfl d_Integer_bitCount_52
def f_Integer_bitCount (a0 : Int32) (h : mH) : Option (Int32 × mH) := f_Integer_bitCount_0 a0 h
theorem c_Integer_bitCount {sc : Nat × (Nat → Int32)} {a0 : Int32} {h : mH} {r : Int32} {h' : mH} (hf : f_Integer_bitCount a0 h = some (r, h')) : MM sc y_Integer_bitCount prog_11_method_49_code 1 (some .int) 0 0 [.int a0] h (some (.int r)) h' :=
  mm_of_G (by decide) (Nat.le_of_ble_eq_true rfl) (t_Integer_bitCount_0 _ _ _ _ hf)
/-! Arrays fill ([JJ)V -/
set_option maxRecDepth 100000 in
theorem dd_Arrays_fillJ_0 : (decode prog_17_method_101_code 0 = .ok (.iconst 0, 1)) ∧ (decode prog_17_method_101_code 1 = .ok (.istore_n 3, 1)) ∧ (decode prog_17_method_101_code 2 = .ok (.aload_n 0, 1)) ∧ (decode prog_17_method_101_code 3 = .ok (.arraylength, 1)) ∧ (decode prog_17_method_101_code 4 = .ok (.istore 4, 2)) ∧ (decode prog_17_method_101_code 6 = .ok (.iload_n 3, 1)) ∧ (decode prog_17_method_101_code 7 = .ok (.iload 4, 2)) ∧ (decode prog_17_method_101_code 9 = .ok (.if_icmp .ge 13, 3)) ∧ (decode prog_17_method_101_code 12 = .ok (.aload_n 0, 1)) ∧ (decode prog_17_method_101_code 13 = .ok (.iload_n 3, 1)) ∧ (decode prog_17_method_101_code 14 = .ok (.lload_n 1, 1)) ∧ (decode prog_17_method_101_code 15 = .ok (.lastore, 1)) ∧ (decode prog_17_method_101_code 16 = .ok (.iinc 3 1, 3)) ∧ (decode prog_17_method_101_code 19 = .ok (.goto (-13), 3)) ∧ (decode prog_17_method_101_code 22 = .ok (.return_, 1)) := by
  have h : List.drop 0 prog_17_method_101_code.data.toList = 0x03 :: _ := rfl
  refine ⟨zq_k_n 3 h rfl (zq_o_3 _), ?_⟩
  replace h := zq_nx1 (q := 1) h rfl
  refine ⟨zq_k_n 62 h rfl (zq_o_62 _), ?_⟩
  replace h := zq_nx1 (q := 2) h rfl
  refine ⟨zq_k_n 42 h rfl (zq_o_42 _), ?_⟩
  replace h := zq_nx1 (q := 3) h rfl
  refine ⟨zq_k_n 190 h rfl (zq_o_190 _), ?_⟩
  replace h := zq_nx1 (q := 4) h rfl
  refine ⟨zq_k_u1 54 (fun z => .istore z) 4 h rfl (zq_o_54 _) (by decide +kernel), ?_⟩
  replace h := zq_nx2 (q := 6) h rfl
  refine ⟨zq_k_n 29 h rfl (zq_o_29 _), ?_⟩
  replace h := zq_nx1 (q := 7) h rfl
  refine ⟨zq_k_u1 21 (fun z => .iload z) 4 h rfl (zq_o_21 _) (by decide +kernel), ?_⟩
  replace h := zq_nx2 (q := 9) h rfl
  refine ⟨zq_k_s2 162 (fun z => .if_icmp .ge z) 13 h rfl (zq_o_162 _) (by decide +kernel), ?_⟩
  replace h := zq_nx3 (q := 12) h rfl
  refine ⟨zq_k_n 42 h rfl (zq_o_42 _), ?_⟩
  replace h := zq_nx1 (q := 13) h rfl
  refine ⟨zq_k_n 29 h rfl (zq_o_29 _), ?_⟩
  replace h := zq_nx1 (q := 14) h rfl
  refine ⟨zq_k_n 31 h rfl (zq_o_31 _), ?_⟩
  replace h := zq_nx1 (q := 15) h rfl
  refine ⟨zq_k_n 80 h rfl (zq_o_80 _), ?_⟩
  replace h := zq_nx1 (q := 16) h rfl
  refine ⟨zq_k_iinc 3 1 h rfl (zq_o_132 _) (by decide +kernel) (by decide +kernel), ?_⟩
  replace h := zq_nx3 (q := 19) h rfl
  refine ⟨zq_k_s2 167 (fun z => .goto z) (-13) h rfl (zq_o_167 _) (by decide +kernel), ?_⟩
  replace h := zq_nx3 (q := 22) h rfl
  exact zq_k_n 177 h rfl (zq_o_177 _)
theorem d_Arrays_fillJ_0 : decode prog_17_method_101_code 0 = .ok (.iconst 0, 1) := dd_Arrays_fillJ_0.1
theorem d_Arrays_fillJ_1 : decode prog_17_method_101_code 1 = .ok (.istore_n 3, 1) := dd_Arrays_fillJ_0.2.1
theorem d_Arrays_fillJ_2 : decode prog_17_method_101_code 2 = .ok (.aload_n 0, 1) := dd_Arrays_fillJ_0.2.2.1
theorem d_Arrays_fillJ_3 : decode prog_17_method_101_code 3 = .ok (.arraylength, 1) := dd_Arrays_fillJ_0.2.2.2.1
theorem d_Arrays_fillJ_4 : decode prog_17_method_101_code 4 = .ok (.istore 4, 2) := dd_Arrays_fillJ_0.2.2.2.2.1
theorem d_Arrays_fillJ_6 : decode prog_17_method_101_code 6 = .ok (.iload_n 3, 1) := dd_Arrays_fillJ_0.2.2.2.2.2.1
theorem d_Arrays_fillJ_7 : decode prog_17_method_101_code 7 = .ok (.iload 4, 2) := dd_Arrays_fillJ_0.2.2.2.2.2.2.1
theorem d_Arrays_fillJ_9 : decode prog_17_method_101_code 9 = .ok (.if_icmp .ge 13, 3) := dd_Arrays_fillJ_0.2.2.2.2.2.2.2.1
theorem d_Arrays_fillJ_12 : decode prog_17_method_101_code 12 = .ok (.aload_n 0, 1) := dd_Arrays_fillJ_0.2.2.2.2.2.2.2.2.1
theorem d_Arrays_fillJ_13 : decode prog_17_method_101_code 13 = .ok (.iload_n 3, 1) := dd_Arrays_fillJ_0.2.2.2.2.2.2.2.2.2.1
theorem d_Arrays_fillJ_14 : decode prog_17_method_101_code 14 = .ok (.lload_n 1, 1) := dd_Arrays_fillJ_0.2.2.2.2.2.2.2.2.2.2.1
theorem d_Arrays_fillJ_15 : decode prog_17_method_101_code 15 = .ok (.lastore, 1) := dd_Arrays_fillJ_0.2.2.2.2.2.2.2.2.2.2.2.1
theorem d_Arrays_fillJ_16 : decode prog_17_method_101_code 16 = .ok (.iinc 3 1, 3) := dd_Arrays_fillJ_0.2.2.2.2.2.2.2.2.2.2.2.2.1
theorem d_Arrays_fillJ_19 : decode prog_17_method_101_code 19 = .ok (.goto (-13), 3) := dd_Arrays_fillJ_0.2.2.2.2.2.2.2.2.2.2.2.2.2.1
theorem d_Arrays_fillJ_22 : decode prog_17_method_101_code 22 = .ok (.return_, 1) := dd_Arrays_fillJ_0.2.2.2.2.2.2.2.2.2.2.2.2.2.2
def f_Arrays_fillJ_6b (rec6 : Nat → Int64 → Int32 → Int32 → mH → Option mH) (b0 : Nat) (b1 : Int64) (b3 : Int32) (b4 : Int32) (h : mH) : Option mH :=
  if b4 ≤ b3 then
    some h
  else
    bd1 (sL h b0 b3 b1) fun h3 =>
    rec6 b0 b1 (b3 + (1 : Int32)) b4 h3
set_option maxRecDepth 20000 in
theorem t_Arrays_fillJ_6b {sc : Nat × (Nat → Int32)} (rec6 : Nat → Int64 → Int32 → Int32 → mH → Option mH) (hrec6 : ∀ (b0 : Nat) (b1 : Int64) (b3 : Int32) (b4 : Int32) (h : mH) (h' : mH), rec6 b0 b1 b3 b4 h = some h' → G sc y_Arrays_fillJ prog_17_method_101_code 5 none 0 0 6 [(0, .ref b0), (1, .long b1), (3, .int b3), (4, .int b4)] [] h none h') (b0 : Nat) (b1 : Int64) (b3 : Int32) (b4 : Int32) (h : mH) (h' : mH) (hf : f_Arrays_fillJ_6b rec6 b0 b1 b3 b4 h = some h') : G sc y_Arrays_fillJ prog_17_method_101_code 5 none 0 0 6 [(0, .ref b0), (1, .long b1), (3, .int b3), (4, .int b4)] [] h none h' := by
  unfold f_Arrays_fillJ_6b at hf
  refine g_iload_n (pc := 6) 2 d_Arrays_fillJ_6 rfl rfl ?_
  refine g_iload (pc := 7) 3 d_Arrays_fillJ_7 rfl ?_
  refine g_icmpge (pc := 9) 22 d_Arrays_fillJ_9 (by decide) (fun c5 => ?_) (fun c5 => ?_)
  · replace hf := (if_pos c5).symm.trans hf
    obtain rfl := ret1 hf
    exact g_vret (pc := 22) rfl d_Arrays_fillJ_22
  · replace hf := (if_neg c5).symm.trans hf
    refine g_aload_n (pc := 12) 0 d_Arrays_fillJ_12 rfl rfl ?_
    refine g_iload_n (pc := 13) 2 d_Arrays_fillJ_13 rfl rfl ?_
    refine g_lload_n (pc := 14) 1 d_Arrays_fillJ_14 rfl rfl ?_
    obtain ⟨h3, e4, hf⟩ := bd1_e hf
    refine g_last (pc := 15) d_Arrays_fillJ_15 e4 ?_
    refine g_iinc (pc := 16) 2 (b3 + (1 : Int32)) [(3, .int (b3 + (1 : Int32))), (0, .ref b0), (1, .long b1), (4, .int b4)] d_Arrays_fillJ_16 rfl rfl (Nat.le_of_ble_eq_true rfl) rfl ?_
    refine g_goto (pc := 19) 6 d_Arrays_fillJ_19 (by decide) ?_
    refine g_lv [1, 2, 0, 3] rfl ?_
    exact hrec6 _ _ _ _ _ _  hf
def f_Arrays_fillJ_6  : Nat → Nat → Int64 → Int32 → Int32 → mH → Option mH
  | 0 => fun _ _ _ _ _ => none
  | n + 1 => f_Arrays_fillJ_6b  (f_Arrays_fillJ_6  n)
theorem t_Arrays_fillJ_6 {sc : Nat × (Nat → Int32)}  : ∀ (n : Nat) (b0 : Nat) (b1 : Int64) (b3 : Int32) (b4 : Int32) (h : mH) (h' : mH) (hf : f_Arrays_fillJ_6  n b0 b1 b3 b4 h = some h'), G sc y_Arrays_fillJ prog_17_method_101_code 5 none 0 0 6 [(0, .ref b0), (1, .long b1), (3, .int b3), (4, .int b4)] [] h none h'
  | 0, _, _, _, _, _, _, hf => by cases hf
  | n + 1, _, _, _, _, _, _, hf => t_Arrays_fillJ_6b  (f_Arrays_fillJ_6  n) (t_Arrays_fillJ_6  n) _ _ _ _ _ _ hf
def f_Arrays_fillJ_0  (a0 : Nat) (a1 : Int64) (h : mH) : Option mH :=
  bd1 (aN h 3 a0) fun x1 =>
  f_Arrays_fillJ_6  FU a0 a1 (0 : Int32) x1 h
set_option maxRecDepth 20000 in
theorem t_Arrays_fillJ_0 {sc : Nat × (Nat → Int32)}  (a0 : Nat) (a1 : Int64) (h : mH) (h' : mH) (hf : f_Arrays_fillJ_0  a0 a1 h = some h') : G sc y_Arrays_fillJ prog_17_method_101_code 5 none 0 0 0 [(0, .ref a0), (1, .long a1)] [] h none h' := by
  unfold f_Arrays_fillJ_0 at hf
  refine g_iconst (pc := 0) (0 : Int32) d_Arrays_fillJ_0 (by decide) ?_
  refine g_istore_n (pc := 1) [(3, .int (0 : Int32)), (0, .ref a0), (1, .long a1)] d_Arrays_fillJ_1 rfl (Nat.le_of_ble_eq_true rfl) rfl ?_
  refine g_aload_n (pc := 2) 1 d_Arrays_fillJ_2 rfl rfl ?_
  obtain ⟨x1, e2, hf⟩ := bd1_e hf
  refine g_alen (pc := 3) (.long) d_Arrays_fillJ_3 (fun _ => rfl) e2 ?_
  refine g_istore (pc := 4) [(4, .int x1), (3, .int (0 : Int32)), (0, .ref a0), (1, .long a1)] d_Arrays_fillJ_4 (Nat.le_of_ble_eq_true rfl) rfl ?_
  refine g_lv [2, 3, 1, 0] rfl ?_
  exact t_Arrays_fillJ_6  FU _ _ _ _ _ _  hf
def f_Arrays_fillJ (a0 : Nat) (a1 : Int64) (h : mH) : Option mH := f_Arrays_fillJ_0 a0 a1 h
theorem c_Arrays_fillJ {sc : Nat × (Nat → Int32)} {a0 : Nat} {a1 : Int64} {h : mH} {h' : mH} (hf : f_Arrays_fillJ a0 a1 h = some h') : MM sc y_Arrays_fillJ prog_17_method_101_code 5 none 0 0 [.ref a0, .long a1] h none h' :=
  mm_of_G (by decide) (Nat.le_of_ble_eq_true rfl) (t_Arrays_fillJ_0 _ _ _ _ hf)
