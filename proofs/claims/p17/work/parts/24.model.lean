/-! M copies (II)V -/
set_option maxRecDepth 100000 in
theorem dd_M_copies_0 : (decode prog_10_method_83_code 0 = .ok (.iconst 0, 1)) ∧ (decode prog_10_method_83_code 1 = .ok (.istore_n 3, 1)) ∧ (decode prog_10_method_83_code 2 = .ok (.iload_n 3, 1)) ∧ (decode prog_10_method_83_code 3 = .ok (.bipush 66, 2)) ∧ (decode prog_10_method_83_code 5 = .ok (.if_icmp .ge 25, 3)) ∧ (decode prog_10_method_83_code 8 = .ok (.aload_n 0, 1)) ∧ (decode prog_10_method_83_code 9 = .ok (.getfield 7, 3)) ∧ (decode prog_10_method_83_code 12 = .ok (.iload_n 1, 1)) ∧ (decode prog_10_method_83_code 13 = .ok (.iload_n 3, 1)) ∧ (decode prog_10_method_83_code 14 = .ok (.iadd, 1)) ∧ (decode prog_10_method_83_code 15 = .ok (.aload_n 0, 1)) ∧ (decode prog_10_method_83_code 16 = .ok (.getfield 7, 3)) ∧ (decode prog_10_method_83_code 19 = .ok (.iload_n 2, 1)) ∧ (decode prog_10_method_83_code 20 = .ok (.iload_n 3, 1)) ∧ (decode prog_10_method_83_code 21 = .ok (.iadd, 1)) ∧ (decode prog_10_method_83_code 22 = .ok (.iaload, 1)) ∧ (decode prog_10_method_83_code 23 = .ok (.iastore, 1)) ∧ (decode prog_10_method_83_code 24 = .ok (.iinc 3 1, 3)) ∧ (decode prog_10_method_83_code 27 = .ok (.goto (-25), 3)) ∧ (decode prog_10_method_83_code 30 = .ok (.return_, 1)) := by
  have h : List.drop 0 prog_10_method_83_code.data.toList = 0x03 :: _ := rfl
  refine ⟨zq_k_n 3 h rfl (zq_o_3 _), ?_⟩
  replace h := zq_nx1 (q := 1) h rfl
  refine ⟨zq_k_n 62 h rfl (zq_o_62 _), ?_⟩
  replace h := zq_nx1 (q := 2) h rfl
  refine ⟨zq_k_n 29 h rfl (zq_o_29 _), ?_⟩
  replace h := zq_nx1 (q := 3) h rfl
  refine ⟨zq_k_s1 16 (fun z => .bipush z) 66 h rfl (zq_o_16 _) (by decide +kernel), ?_⟩
  replace h := zq_nx2 (q := 5) h rfl
  refine ⟨zq_k_s2 162 (fun z => .if_icmp .ge z) 25 h rfl (zq_o_162 _) (by decide +kernel), ?_⟩
  replace h := zq_nx3 (q := 8) h rfl
  refine ⟨zq_k_n 42 h rfl (zq_o_42 _), ?_⟩
  replace h := zq_nx1 (q := 9) h rfl
  refine ⟨zq_k_u2 180 (fun z => .getfield z) 7 h rfl (zq_o_180 _) (by decide +kernel), ?_⟩
  replace h := zq_nx3 (q := 12) h rfl
  refine ⟨zq_k_n 27 h rfl (zq_o_27 _), ?_⟩
  replace h := zq_nx1 (q := 13) h rfl
  refine ⟨zq_k_n 29 h rfl (zq_o_29 _), ?_⟩
  replace h := zq_nx1 (q := 14) h rfl
  refine ⟨zq_k_n 96 h rfl (zq_o_96 _), ?_⟩
  replace h := zq_nx1 (q := 15) h rfl
  refine ⟨zq_k_n 42 h rfl (zq_o_42 _), ?_⟩
  replace h := zq_nx1 (q := 16) h rfl
  refine ⟨zq_k_u2 180 (fun z => .getfield z) 7 h rfl (zq_o_180 _) (by decide +kernel), ?_⟩
  replace h := zq_nx3 (q := 19) h rfl
  refine ⟨zq_k_n 28 h rfl (zq_o_28 _), ?_⟩
  replace h := zq_nx1 (q := 20) h rfl
  refine ⟨zq_k_n 29 h rfl (zq_o_29 _), ?_⟩
  replace h := zq_nx1 (q := 21) h rfl
  refine ⟨zq_k_n 96 h rfl (zq_o_96 _), ?_⟩
  replace h := zq_nx1 (q := 22) h rfl
  refine ⟨zq_k_n 46 h rfl (zq_o_46 _), ?_⟩
  replace h := zq_nx1 (q := 23) h rfl
  refine ⟨zq_k_n 79 h rfl (zq_o_79 _), ?_⟩
  replace h := zq_nx1 (q := 24) h rfl
  refine ⟨zq_k_iinc 3 1 h rfl (zq_o_132 _) (by decide +kernel) (by decide +kernel), ?_⟩
  replace h := zq_nx3 (q := 27) h rfl
  refine ⟨zq_k_s2 167 (fun z => .goto z) (-25) h rfl (zq_o_167 _) (by decide +kernel), ?_⟩
  replace h := zq_nx3 (q := 30) h rfl
  exact zq_k_n 177 h rfl (zq_o_177 _)
theorem d_M_copies_0 : decode prog_10_method_83_code 0 = .ok (.iconst 0, 1) := dd_M_copies_0.1
theorem d_M_copies_1 : decode prog_10_method_83_code 1 = .ok (.istore_n 3, 1) := dd_M_copies_0.2.1
theorem d_M_copies_2 : decode prog_10_method_83_code 2 = .ok (.iload_n 3, 1) := dd_M_copies_0.2.2.1
theorem d_M_copies_3 : decode prog_10_method_83_code 3 = .ok (.bipush 66, 2) := dd_M_copies_0.2.2.2.1
theorem d_M_copies_5 : decode prog_10_method_83_code 5 = .ok (.if_icmp .ge 25, 3) := dd_M_copies_0.2.2.2.2.1
theorem d_M_copies_8 : decode prog_10_method_83_code 8 = .ok (.aload_n 0, 1) := dd_M_copies_0.2.2.2.2.2.1
theorem d_M_copies_9 : decode prog_10_method_83_code 9 = .ok (.getfield 7, 3) := dd_M_copies_0.2.2.2.2.2.2.1
theorem d_M_copies_12 : decode prog_10_method_83_code 12 = .ok (.iload_n 1, 1) := dd_M_copies_0.2.2.2.2.2.2.2.1
theorem d_M_copies_13 : decode prog_10_method_83_code 13 = .ok (.iload_n 3, 1) := dd_M_copies_0.2.2.2.2.2.2.2.2.1
theorem d_M_copies_14 : decode prog_10_method_83_code 14 = .ok (.iadd, 1) := dd_M_copies_0.2.2.2.2.2.2.2.2.2.1
theorem d_M_copies_15 : decode prog_10_method_83_code 15 = .ok (.aload_n 0, 1) := dd_M_copies_0.2.2.2.2.2.2.2.2.2.2.1
theorem d_M_copies_16 : decode prog_10_method_83_code 16 = .ok (.getfield 7, 3) := dd_M_copies_0.2.2.2.2.2.2.2.2.2.2.2.1
theorem d_M_copies_19 : decode prog_10_method_83_code 19 = .ok (.iload_n 2, 1) := dd_M_copies_0.2.2.2.2.2.2.2.2.2.2.2.2.1
theorem d_M_copies_20 : decode prog_10_method_83_code 20 = .ok (.iload_n 3, 1) := dd_M_copies_0.2.2.2.2.2.2.2.2.2.2.2.2.2.1
theorem d_M_copies_21 : decode prog_10_method_83_code 21 = .ok (.iadd, 1) := dd_M_copies_0.2.2.2.2.2.2.2.2.2.2.2.2.2.2.1
theorem d_M_copies_22 : decode prog_10_method_83_code 22 = .ok (.iaload, 1) := dd_M_copies_0.2.2.2.2.2.2.2.2.2.2.2.2.2.2.2.1
theorem d_M_copies_23 : decode prog_10_method_83_code 23 = .ok (.iastore, 1) := dd_M_copies_0.2.2.2.2.2.2.2.2.2.2.2.2.2.2.2.2.1
theorem d_M_copies_24 : decode prog_10_method_83_code 24 = .ok (.iinc 3 1, 3) := dd_M_copies_0.2.2.2.2.2.2.2.2.2.2.2.2.2.2.2.2.2.1
theorem d_M_copies_27 : decode prog_10_method_83_code 27 = .ok (.goto (-25), 3) := dd_M_copies_0.2.2.2.2.2.2.2.2.2.2.2.2.2.2.2.2.2.2.1
theorem d_M_copies_30 : decode prog_10_method_83_code 30 = .ok (.return_, 1) := dd_M_copies_0.2.2.2.2.2.2.2.2.2.2.2.2.2.2.2.2.2.2.2
def f_M_copies_2b (rec2 : Nat → Int32 → Int32 → Int32 → mH → Option mH) (b0 : Nat) (b1 : Int32) (b2 : Int32) (b3 : Int32) (h : mH) : Option mH :=
  if (66 : Int32) ≤ b3 then
    some h
  else
    bd1 (gR h b0 8 0) fun x1 =>
    bd1 (gR h b0 8 0) fun x3 =>
    bd1 (aI h 0 x3 (b2 + b3)) fun x5 =>
    bd1 (sI h 0 x1 (b1 + b3) x5) fun h7 =>
    rec2 b0 b1 b2 (b3 + (1 : Int32)) h7
set_option maxRecDepth 20000 in
theorem t_M_copies_2b {sc : Nat × (Nat → Int32)} (rec2 : Nat → Int32 → Int32 → Int32 → mH → Option mH) (hrec2 : ∀ (b0 : Nat) (b1 : Int32) (b2 : Int32) (b3 : Int32) (h : mH) (h' : mH), rec2 b0 b1 b2 b3 h = some h' → G sc y_M_copies prog_10_method_83_code 4 none 0 0 2 [(0, .ref b0), (1, .int b1), (2, .int b2), (3, .int b3)] [] h none h') (b0 : Nat) (b1 : Int32) (b2 : Int32) (b3 : Int32) (h : mH) (h' : mH) (hf : f_M_copies_2b rec2 b0 b1 b2 b3 h = some h') : G sc y_M_copies prog_10_method_83_code 4 none 0 0 2 [(0, .ref b0), (1, .int b1), (2, .int b2), (3, .int b3)] [] h none h' := by
  unfold f_M_copies_2b at hf
  refine g_iload_n (pc := 2) 3 d_M_copies_2 rfl rfl ?_
  refine g_bipush (pc := 3) (66 : Int32) d_M_copies_3 (by decide) ?_
  refine g_icmpge (pc := 5) 30 d_M_copies_5 (by decide) (fun c9 => ?_) (fun c9 => ?_)
  · replace hf := (if_pos c9).symm.trans hf
    obtain rfl := ret1 hf
    exact g_vret (pc := 30) rfl d_M_copies_30
  · replace hf := (if_neg c9).symm.trans hf
    refine g_aload_n (pc := 8) 0 d_M_copies_8 rfl rfl ?_
    obtain ⟨x1, e2, hf⟩ := bd1_e hf
    refine g_get (pc := 9) (ci := 8) (kk := 0) d_M_copies_9 rfl in_M (by decide) wd_938 (gR_spec e2) ?_
    refine g_iload_n (pc := 12) 1 d_M_copies_12 rfl rfl ?_
    refine g_iload_n (pc := 13) 3 d_M_copies_13 rfl rfl ?_
    refine g_iadd (pc := 14) d_M_copies_14 ?_
    refine g_aload_n (pc := 15) 0 d_M_copies_15 rfl rfl ?_
    obtain ⟨x3, e4, hf⟩ := bd1_e hf
    refine g_get (pc := 16) (ci := 8) (kk := 0) d_M_copies_16 rfl in_M (by decide) wd_938 (gR_spec e4) ?_
    refine g_iload_n (pc := 19) 2 d_M_copies_19 rfl rfl ?_
    refine g_iload_n (pc := 20) 3 d_M_copies_20 rfl rfl ?_
    refine g_iadd (pc := 21) d_M_copies_21 ?_
    obtain ⟨x5, e6, hf⟩ := bd1_e hf
    refine g_iald (pc := 22) d_M_copies_22 e6 ?_
    obtain ⟨h7, e8, hf⟩ := bd1_e hf
    refine g_iast (pc := 23) d_M_copies_23 e8 ?_
    refine g_iinc (pc := 24) 3 (b3 + (1 : Int32)) [(3, .int (b3 + (1 : Int32))), (0, .ref b0), (1, .int b1), (2, .int b2)] d_M_copies_24 rfl rfl (Nat.le_of_ble_eq_true rfl) rfl ?_
    refine g_goto (pc := 27) 2 d_M_copies_27 (by decide) ?_
    refine g_lv [1, 2, 3, 0] rfl ?_
    exact hrec2 _ _ _ _ _ _  hf
def f_M_copies_2  : Nat → Nat → Int32 → Int32 → Int32 → mH → Option mH
  | 0 => fun _ _ _ _ _ => none
  | n + 1 => f_M_copies_2b  (f_M_copies_2  n)
theorem t_M_copies_2 {sc : Nat × (Nat → Int32)}  : ∀ (n : Nat) (b0 : Nat) (b1 : Int32) (b2 : Int32) (b3 : Int32) (h : mH) (h' : mH) (hf : f_M_copies_2  n b0 b1 b2 b3 h = some h'), G sc y_M_copies prog_10_method_83_code 4 none 0 0 2 [(0, .ref b0), (1, .int b1), (2, .int b2), (3, .int b3)] [] h none h'
  | 0, _, _, _, _, _, _, hf => by cases hf
  | n + 1, _, _, _, _, _, _, hf => t_M_copies_2b  (f_M_copies_2  n) (t_M_copies_2  n) _ _ _ _ _ _ hf
def f_M_copies_0  (a0 : Nat) (a1 : Int32) (a2 : Int32) (h : mH) : Option mH :=
  f_M_copies_2  FU a0 a1 a2 (0 : Int32) h
set_option maxRecDepth 20000 in
theorem t_M_copies_0 {sc : Nat × (Nat → Int32)}  (a0 : Nat) (a1 : Int32) (a2 : Int32) (h : mH) (h' : mH) (hf : f_M_copies_0  a0 a1 a2 h = some h') : G sc y_M_copies prog_10_method_83_code 4 none 0 0 0 [(0, .ref a0), (1, .int a1), (2, .int a2)] [] h none h' := by
  unfold f_M_copies_0 at hf
  refine g_iconst (pc := 0) (0 : Int32) d_M_copies_0 (by decide) ?_
  refine g_istore_n (pc := 1) [(3, .int (0 : Int32)), (0, .ref a0), (1, .int a1), (2, .int a2)] d_M_copies_1 rfl (Nat.le_of_ble_eq_true rfl) rfl ?_
  refine g_lv [1, 2, 3, 0] rfl ?_
  exact t_M_copies_2  FU _ _ _ _ _ _  hf
def f_M_copies (a0 : Nat) (a1 : Int32) (a2 : Int32) (h : mH) : Option mH := f_M_copies_0 a0 a1 a2 h
theorem c_M_copies {sc : Nat × (Nat → Int32)} {a0 : Nat} {a1 : Int32} {a2 : Int32} {h : mH} {h' : mH} (hf : f_M_copies a0 a1 a2 h = some h') : MM sc y_M_copies prog_10_method_83_code 4 none 0 0 [.ref a0, .int a1, .int a2] h none h' :=
  mm_of_G (by decide) (Nat.le_of_ble_eq_true rfl) (t_M_copies_0 _ _ _ _ _ hf)
/-! M keep (I)I -/
set_option maxRecDepth 100000 in
theorem dd_M_keep_0 : (decode prog_10_method_84_code 0 = .ok (.iload_n 1, 1)) ∧ (decode prog_10_method_84_code 1 = .ok (.i2l, 1)) ∧ (decode prog_10_method_84_code 2 = .ok (.lconst 0, 1)) ∧ (decode prog_10_method_84_code 3 = .ok (.lconst 1, 1)) ∧ (decode prog_10_method_84_code 4 = .ok (.invokestatic 114, 3)) ∧ (decode prog_10_method_84_code 7 = .ok (.ifCond .ne 5, 3)) ∧ (decode prog_10_method_84_code 10 = .ok (.iconst (-1), 1)) ∧ (decode prog_10_method_84_code 11 = .ok (.ireturn, 1)) ∧ (decode prog_10_method_84_code 12 = .ok (.aload_n 0, 1)) ∧ (decode prog_10_method_84_code 13 = .ok (.getfield 13, 3)) ∧ (decode prog_10_method_84_code 16 = .ok (.iload_n 1, 1)) ∧ (decode prog_10_method_84_code 17 = .ok (.baload, 1)) ∧ (decode prog_10_method_84_code 18 = .ok (.invokestatic 220, 3)) ∧ (decode prog_10_method_84_code 21 = .ok (.istore_n 2, 1)) ∧ (decode prog_10_method_84_code 22 = .ok (.aload_n 0, 1)) ∧ (decode prog_10_method_84_code 23 = .ok (.getfield 13, 3)) ∧ (decode prog_10_method_84_code 26 = .ok (.iload_n 1, 1)) ∧ (decode prog_10_method_84_code 27 = .ok (.iconst 1, 1)) ∧ (decode prog_10_method_84_code 28 = .ok (.bastore, 1)) ∧ (decode prog_10_method_84_code 29 = .ok (.aload_n 0, 1)) ∧ (decode prog_10_method_84_code 30 = .ok (.bipush 66, 2)) ∧ (decode prog_10_method_84_code 32 = .ok (.iload_n 1, 1)) ∧ (decode prog_10_method_84_code 33 = .ok (.iconst 1, 1)) ∧ (decode prog_10_method_84_code 34 = .ok (.iadd, 1)) := by
  have h : List.drop 0 prog_10_method_84_code.data.toList = 0x1b :: _ := rfl
  refine ⟨zq_k_n 27 h rfl (zq_o_27 _), ?_⟩
  replace h := zq_nx1 (q := 1) h rfl
  refine ⟨zq_k_n 133 h rfl (zq_o_133 _), ?_⟩
  replace h := zq_nx1 (q := 2) h rfl
  refine ⟨zq_k_n 9 h rfl (zq_o_9 _), ?_⟩
  replace h := zq_nx1 (q := 3) h rfl
  refine ⟨zq_k_n 10 h rfl (zq_o_10 _), ?_⟩
  replace h := zq_nx1 (q := 4) h rfl
  refine ⟨zq_k_u2 184 (fun z => .invokestatic z) 114 h rfl (zq_o_184 _) (by decide +kernel), ?_⟩
  replace h := zq_nx3 (q := 7) h rfl
  refine ⟨zq_k_s2 154 (fun z => .ifCond .ne z) 5 h rfl (zq_o_154 _) (by decide +kernel), ?_⟩
  replace h := zq_nx3 (q := 10) h rfl
  refine ⟨zq_k_n 2 h rfl (zq_o_2 _), ?_⟩
  replace h := zq_nx1 (q := 11) h rfl
  refine ⟨zq_k_n 172 h rfl (zq_o_172 _), ?_⟩
  replace h := zq_nx1 (q := 12) h rfl
  refine ⟨zq_k_n 42 h rfl (zq_o_42 _), ?_⟩
  replace h := zq_nx1 (q := 13) h rfl
  refine ⟨zq_k_u2 180 (fun z => .getfield z) 13 h rfl (zq_o_180 _) (by decide +kernel), ?_⟩
  replace h := zq_nx3 (q := 16) h rfl
  refine ⟨zq_k_n 27 h rfl (zq_o_27 _), ?_⟩
  replace h := zq_nx1 (q := 17) h rfl
  refine ⟨zq_k_n 51 h rfl (zq_o_51 _), ?_⟩
  replace h := zq_nx1 (q := 18) h rfl
  refine ⟨zq_k_u2 184 (fun z => .invokestatic z) 220 h rfl (zq_o_184 _) (by decide +kernel), ?_⟩
  replace h := zq_nx3 (q := 21) h rfl
  refine ⟨zq_k_n 61 h rfl (zq_o_61 _), ?_⟩
  replace h := zq_nx1 (q := 22) h rfl
  refine ⟨zq_k_n 42 h rfl (zq_o_42 _), ?_⟩
  replace h := zq_nx1 (q := 23) h rfl
  refine ⟨zq_k_u2 180 (fun z => .getfield z) 13 h rfl (zq_o_180 _) (by decide +kernel), ?_⟩
  replace h := zq_nx3 (q := 26) h rfl
  refine ⟨zq_k_n 27 h rfl (zq_o_27 _), ?_⟩
  replace h := zq_nx1 (q := 27) h rfl
  refine ⟨zq_k_n 4 h rfl (zq_o_4 _), ?_⟩
  replace h := zq_nx1 (q := 28) h rfl
  refine ⟨zq_k_n 84 h rfl (zq_o_84 _), ?_⟩
  replace h := zq_nx1 (q := 29) h rfl
  refine ⟨zq_k_n 42 h rfl (zq_o_42 _), ?_⟩
  replace h := zq_nx1 (q := 30) h rfl
  refine ⟨zq_k_s1 16 (fun z => .bipush z) 66 h rfl (zq_o_16 _) (by decide +kernel), ?_⟩
  replace h := zq_nx2 (q := 32) h rfl
  refine ⟨zq_k_n 27 h rfl (zq_o_27 _), ?_⟩
  replace h := zq_nx1 (q := 33) h rfl
  refine ⟨zq_k_n 4 h rfl (zq_o_4 _), ?_⟩
  replace h := zq_nx1 (q := 34) h rfl
  exact zq_k_n 96 h rfl (zq_o_96 _)
theorem d_M_keep_0 : decode prog_10_method_84_code 0 = .ok (.iload_n 1, 1) := dd_M_keep_0.1
theorem d_M_keep_1 : decode prog_10_method_84_code 1 = .ok (.i2l, 1) := dd_M_keep_0.2.1
theorem d_M_keep_2 : decode prog_10_method_84_code 2 = .ok (.lconst 0, 1) := dd_M_keep_0.2.2.1
theorem d_M_keep_3 : decode prog_10_method_84_code 3 = .ok (.lconst 1, 1) := dd_M_keep_0.2.2.2.1
theorem d_M_keep_4 : decode prog_10_method_84_code 4 = .ok (.invokestatic 114, 3) := dd_M_keep_0.2.2.2.2.1
theorem d_M_keep_7 : decode prog_10_method_84_code 7 = .ok (.ifCond .ne 5, 3) := dd_M_keep_0.2.2.2.2.2.1
theorem d_M_keep_10 : decode prog_10_method_84_code 10 = .ok (.iconst (-1), 1) := dd_M_keep_0.2.2.2.2.2.2.1
theorem d_M_keep_11 : decode prog_10_method_84_code 11 = .ok (.ireturn, 1) := dd_M_keep_0.2.2.2.2.2.2.2.1
theorem d_M_keep_12 : decode prog_10_method_84_code 12 = .ok (.aload_n 0, 1) := dd_M_keep_0.2.2.2.2.2.2.2.2.1
theorem d_M_keep_13 : decode prog_10_method_84_code 13 = .ok (.getfield 13, 3) := dd_M_keep_0.2.2.2.2.2.2.2.2.2.1
theorem d_M_keep_16 : decode prog_10_method_84_code 16 = .ok (.iload_n 1, 1) := dd_M_keep_0.2.2.2.2.2.2.2.2.2.2.1
theorem d_M_keep_17 : decode prog_10_method_84_code 17 = .ok (.baload, 1) := dd_M_keep_0.2.2.2.2.2.2.2.2.2.2.2.1
theorem d_M_keep_18 : decode prog_10_method_84_code 18 = .ok (.invokestatic 220, 3) := dd_M_keep_0.2.2.2.2.2.2.2.2.2.2.2.2.1
theorem d_M_keep_21 : decode prog_10_method_84_code 21 = .ok (.istore_n 2, 1) := dd_M_keep_0.2.2.2.2.2.2.2.2.2.2.2.2.2.1
theorem d_M_keep_22 : decode prog_10_method_84_code 22 = .ok (.aload_n 0, 1) := dd_M_keep_0.2.2.2.2.2.2.2.2.2.2.2.2.2.2.1
theorem d_M_keep_23 : decode prog_10_method_84_code 23 = .ok (.getfield 13, 3) := dd_M_keep_0.2.2.2.2.2.2.2.2.2.2.2.2.2.2.2.1
theorem d_M_keep_26 : decode prog_10_method_84_code 26 = .ok (.iload_n 1, 1) := dd_M_keep_0.2.2.2.2.2.2.2.2.2.2.2.2.2.2.2.2.1
theorem d_M_keep_27 : decode prog_10_method_84_code 27 = .ok (.iconst 1, 1) := dd_M_keep_0.2.2.2.2.2.2.2.2.2.2.2.2.2.2.2.2.2.1
theorem d_M_keep_28 : decode prog_10_method_84_code 28 = .ok (.bastore, 1) := dd_M_keep_0.2.2.2.2.2.2.2.2.2.2.2.2.2.2.2.2.2.2.1
theorem d_M_keep_29 : decode prog_10_method_84_code 29 = .ok (.aload_n 0, 1) := dd_M_keep_0.2.2.2.2.2.2.2.2.2.2.2.2.2.2.2.2.2.2.2.1
theorem d_M_keep_30 : decode prog_10_method_84_code 30 = .ok (.bipush 66, 2) := dd_M_keep_0.2.2.2.2.2.2.2.2.2.2.2.2.2.2.2.2.2.2.2.2.1
theorem d_M_keep_32 : decode prog_10_method_84_code 32 = .ok (.iload_n 1, 1) := dd_M_keep_0.2.2.2.2.2.2.2.2.2.2.2.2.2.2.2.2.2.2.2.2.2.1
theorem d_M_keep_33 : decode prog_10_method_84_code 33 = .ok (.iconst 1, 1) := dd_M_keep_0.2.2.2.2.2.2.2.2.2.2.2.2.2.2.2.2.2.2.2.2.2.2.1
theorem d_M_keep_34 : decode prog_10_method_84_code 34 = .ok (.iadd, 1) := dd_M_keep_0.2.2.2.2.2.2.2.2.2.2.2.2.2.2.2.2.2.2.2.2.2.2.2
set_option maxRecDepth 100000 in
theorem dd_M_keep_35 : (decode prog_10_method_84_code 35 = .ok (.imul, 1)) ∧ (decode prog_10_method_84_code 36 = .ok (.iconst 0, 1)) ∧ (decode prog_10_method_84_code 37 = .ok (.invokevirtual 325, 3)) ∧ (decode prog_10_method_84_code 40 = .ok (.iload_n 2, 1)) ∧ (decode prog_10_method_84_code 41 = .ok (.ireturn, 1)) := by
  have h : List.drop 35 prog_10_method_84_code.data.toList = 0x68 :: _ := rfl
  refine ⟨zq_k_n 104 h rfl (zq_o_104 _), ?_⟩
  replace h := zq_nx1 (q := 36) h rfl
  refine ⟨zq_k_n 3 h rfl (zq_o_3 _), ?_⟩
  replace h := zq_nx1 (q := 37) h rfl
  refine ⟨zq_k_u2 182 (fun z => .invokevirtual z) 325 h rfl (zq_o_182 _) (by decide +kernel), ?_⟩
  replace h := zq_nx3 (q := 40) h rfl
  refine ⟨zq_k_n 28 h rfl (zq_o_28 _), ?_⟩
  replace h := zq_nx1 (q := 41) h rfl
  exact zq_k_n 172 h rfl (zq_o_172 _)
theorem d_M_keep_35 : decode prog_10_method_84_code 35 = .ok (.imul, 1) := dd_M_keep_35.1
theorem d_M_keep_36 : decode prog_10_method_84_code 36 = .ok (.iconst 0, 1) := dd_M_keep_35.2.1
theorem d_M_keep_37 : decode prog_10_method_84_code 37 = .ok (.invokevirtual 325, 3) := dd_M_keep_35.2.2.1
theorem d_M_keep_40 : decode prog_10_method_84_code 40 = .ok (.iload_n 2, 1) := dd_M_keep_35.2.2.2.1
theorem d_M_keep_41 : decode prog_10_method_84_code 41 = .ok (.ireturn, 1) := dd_M_keep_35.2.2.2.2
def f_M_keep_0  (a0 : Nat) (a1 : Int32) (h : mH) : Option (Int32 × mH) :=
  bd2 (f_M_in a1.toInt64 (0 : Int64) (1 : Int64) h) fun x3 h1 =>
  if x3 = 0 then
    some (((-1) : Int32), h1)
  else
    bd1 (gR h1 a0 8 1) fun x4 =>
    bd1 (aI h1 2 x4 a1) fun x6 =>
    bd2 (f_M_flag x6 h1) fun x10 h8 =>
    bd1 (gR h8 a0 8 1) fun x11 =>
    bd1 (sI h8 2 x11 a1 (vp_nar .boolean (1 : Int32))) fun h13 =>
    bd1 (kC h13 a0 8) fun _ =>
    bd1 (f_M_copies a0 ((66 : Int32) * (a1 + (1 : Int32))) (0 : Int32) h13) fun h17 =>
    some (x10, h17)
set_option maxRecDepth 20000 in
theorem t_M_keep_0 {sc : Nat × (Nat → Int32)}  (a0 : Nat) (a1 : Int32) (h : mH) (r : Int32) (h' : mH) (hf : f_M_keep_0  a0 a1 h = some (r, h')) : G sc y_M_keep prog_10_method_84_code 3 (some .int) 1 25 0 [(0, .ref a0), (1, .int a1)] [] h (some (.int r)) h' := by
  unfold f_M_keep_0 at hf
  refine g_iload_n (pc := 0) 1 d_M_keep_0 rfl rfl ?_
  refine g_i2l (pc := 1) d_M_keep_1 ?_
  refine g_lconst (pc := 2) (0 : Int64) d_M_keep_2 (by decide) ?_
  refine g_lconst (pc := 3) (1 : Int64) d_M_keep_3 (by decide) ?_
  obtain ⟨x3, h1, e2, hf⟩ := bd2_e hf
  refine g_callS (pc := 4) [.long a1.toInt64, .long (0 : Int64), .long (1 : Int64)] (site_of si_M_in (by decide) (by decide)) wd_1061 wd_1062 d_M_keep_4 (Nat.le_of_ble_eq_true rfl) (fun z => absurd z (by decide)) (fun z => absurd z (by decide)) (fun z => absurd z (by decide)) (c_M_in e2) rfl ?_
  refine g_st [.int x3] rfl ?_
  refine g_ifne (pc := 7) 12 d_M_keep_7 (by decide) (fun c19 => ?_) (fun c19 => ?_)
  · replace hf := (if_neg c19).symm.trans hf
    refine g_aload_n (pc := 12) 0 d_M_keep_12 rfl rfl ?_
    obtain ⟨x4, e5, hf⟩ := bd1_e hf
    refine g_get (pc := 13) (ci := 8) (kk := 1) d_M_keep_13 rfl in_M (by decide) wd_939 (gR_spec e5) ?_
    refine g_iload_n (pc := 16) 1 d_M_keep_16 rfl rfl ?_
    obtain ⟨x6, e7, hf⟩ := bd1_e hf
    refine g_zald (pc := 17) d_M_keep_17 e7 ?_
    obtain ⟨x10, h8, e9, hf⟩ := bd2_e hf
    refine g_callS (pc := 18) [.int x6] (site_of si_M_flag (by decide) (by decide)) wd_1180 wd_1181 d_M_keep_18 (Nat.le_of_ble_eq_true rfl) (fun z => absurd z (by decide)) (fun z => absurd z (by decide)) (fun z => absurd z (by decide)) (c_M_flag e9) rfl ?_
    refine g_st [.int x10] rfl ?_
    refine g_istore_n (pc := 21) [(2, .int x10), (0, .ref a0), (1, .int a1)] d_M_keep_21 rfl (Nat.le_of_ble_eq_true rfl) rfl ?_
    refine g_aload_n (pc := 22) 1 d_M_keep_22 rfl rfl ?_
    obtain ⟨x11, e12, hf⟩ := bd1_e hf
    refine g_get (pc := 23) (ci := 8) (kk := 1) d_M_keep_23 rfl in_M (by decide) wd_939 (gR_spec e12) ?_
    refine g_iload_n (pc := 26) 2 d_M_keep_26 rfl rfl ?_
    refine g_iconst (pc := 27) (1 : Int32) d_M_keep_27 (by decide) ?_
    obtain ⟨h13, e14, hf⟩ := bd1_e hf
    refine g_zast (pc := 28) d_M_keep_28 e14 ?_
    refine g_aload_n (pc := 29) 1 d_M_keep_29 rfl rfl ?_
    refine g_bipush (pc := 30) (66 : Int32) d_M_keep_30 (by decide) ?_
    refine g_iload_n (pc := 32) 2 d_M_keep_32 rfl rfl ?_
    refine g_iconst (pc := 33) (1 : Int32) d_M_keep_33 (by decide) ?_
    refine g_iadd (pc := 34) d_M_keep_34 ?_
    refine g_imul (pc := 35) d_M_keep_35 ?_
    refine g_iconst (pc := 36) (0 : Int32) d_M_keep_36 (by decide) ?_
    obtain ⟨u16, e15, hf⟩ := bd1_e hf
    obtain ⟨h17, e18, hf⟩ := bd1_e hf
    refine g_callV (pc := 37) (ci := 8) [.int ((66 : Int32) * (a1 + (1 : Int32))), .int (0 : Int32)] (site_of si_M_copies (by decide) (by decide)) wd_1384 wd_1386 wp_74 d_M_keep_37 rfl e15 (Nat.le_of_ble_eq_true rfl) (fun z => absurd z (by decide)) (fun z => absurd z (by decide)) (fun z => absurd z (by decide)) (c_M_copies e18) rfl ?_
    refine g_st [] rfl ?_
    refine g_iload_n (pc := 40) 0 d_M_keep_40 rfl rfl ?_
    obtain ⟨rfl, rfl⟩ := ret2 hf
    exact g_iret (pc := 41) rfl d_M_keep_41
  · replace hf := (if_pos c19).symm.trans hf
    refine g_iconst (pc := 10) ((-1) : Int32) d_M_keep_10 (by decide) ?_
    obtain ⟨rfl, rfl⟩ := ret2 hf
    exact g_iret (pc := 11) rfl d_M_keep_11
def f_M_keep (a0 : Nat) (a1 : Int32) (h : mH) : Option (Int32 × mH) := f_M_keep_0 a0 a1 h
theorem c_M_keep {sc : Nat × (Nat → Int32)} {a0 : Nat} {a1 : Int32} {h : mH} {r : Int32} {h' : mH} (hf : f_M_keep a0 a1 h = some (r, h')) : MM sc y_M_keep prog_10_method_84_code 3 (some .int) 1 25 [.ref a0, .int a1] h (some (.int r)) h' :=
  mm_of_G (by decide) (Nat.le_of_ble_eq_true rfl) (t_M_keep_0 _ _ _ _ _ hf)
/-! M back (I)I -/
set_option maxRecDepth 100000 in
theorem dd_M_back_0 : (decode prog_10_method_85_code 0 = .ok (.iload_n 1, 1)) ∧ (decode prog_10_method_85_code 1 = .ok (.i2l, 1)) ∧ (decode prog_10_method_85_code 2 = .ok (.lconst 0, 1)) ∧ (decode prog_10_method_85_code 3 = .ok (.lconst 1, 1)) ∧ (decode prog_10_method_85_code 4 = .ok (.invokestatic 114, 3)) ∧ (decode prog_10_method_85_code 7 = .ok (.ifCond .ne 5, 3)) ∧ (decode prog_10_method_85_code 10 = .ok (.iconst (-1), 1)) ∧ (decode prog_10_method_85_code 11 = .ok (.ireturn, 1)) ∧ (decode prog_10_method_85_code 12 = .ok (.aload_n 0, 1)) ∧ (decode prog_10_method_85_code 13 = .ok (.getfield 13, 3)) ∧ (decode prog_10_method_85_code 16 = .ok (.iload_n 1, 1)) ∧ (decode prog_10_method_85_code 17 = .ok (.baload, 1)) ∧ (decode prog_10_method_85_code 18 = .ok (.ifCond .ne 6, 3)) ∧ (decode prog_10_method_85_code 21 = .ok (.bipush (-2), 2)) ∧ (decode prog_10_method_85_code 23 = .ok (.ireturn, 1)) ∧ (decode prog_10_method_85_code 24 = .ok (.aload_n 0, 1)) ∧ (decode prog_10_method_85_code 25 = .ok (.iconst 0, 1)) ∧ (decode prog_10_method_85_code 26 = .ok (.bipush 66, 2)) ∧ (decode prog_10_method_85_code 28 = .ok (.iload_n 1, 1)) ∧ (decode prog_10_method_85_code 29 = .ok (.iconst 1, 1)) ∧ (decode prog_10_method_85_code 30 = .ok (.iadd, 1)) ∧ (decode prog_10_method_85_code 31 = .ok (.imul, 1)) ∧ (decode prog_10_method_85_code 32 = .ok (.invokevirtual 325, 3)) ∧ (decode prog_10_method_85_code 35 = .ok (.aload_n 0, 1)) := by
  have h : List.drop 0 prog_10_method_85_code.data.toList = 0x1b :: _ := rfl
  refine ⟨zq_k_n 27 h rfl (zq_o_27 _), ?_⟩
  replace h := zq_nx1 (q := 1) h rfl
  refine ⟨zq_k_n 133 h rfl (zq_o_133 _), ?_⟩
  replace h := zq_nx1 (q := 2) h rfl
  refine ⟨zq_k_n 9 h rfl (zq_o_9 _), ?_⟩
  replace h := zq_nx1 (q := 3) h rfl
  refine ⟨zq_k_n 10 h rfl (zq_o_10 _), ?_⟩
  replace h := zq_nx1 (q := 4) h rfl
  refine ⟨zq_k_u2 184 (fun z => .invokestatic z) 114 h rfl (zq_o_184 _) (by decide +kernel), ?_⟩
  replace h := zq_nx3 (q := 7) h rfl
  refine ⟨zq_k_s2 154 (fun z => .ifCond .ne z) 5 h rfl (zq_o_154 _) (by decide +kernel), ?_⟩
  replace h := zq_nx3 (q := 10) h rfl
  refine ⟨zq_k_n 2 h rfl (zq_o_2 _), ?_⟩
  replace h := zq_nx1 (q := 11) h rfl
  refine ⟨zq_k_n 172 h rfl (zq_o_172 _), ?_⟩
  replace h := zq_nx1 (q := 12) h rfl
  refine ⟨zq_k_n 42 h rfl (zq_o_42 _), ?_⟩
  replace h := zq_nx1 (q := 13) h rfl
  refine ⟨zq_k_u2 180 (fun z => .getfield z) 13 h rfl (zq_o_180 _) (by decide +kernel), ?_⟩
  replace h := zq_nx3 (q := 16) h rfl
  refine ⟨zq_k_n 27 h rfl (zq_o_27 _), ?_⟩
  replace h := zq_nx1 (q := 17) h rfl
  refine ⟨zq_k_n 51 h rfl (zq_o_51 _), ?_⟩
  replace h := zq_nx1 (q := 18) h rfl
  refine ⟨zq_k_s2 154 (fun z => .ifCond .ne z) 6 h rfl (zq_o_154 _) (by decide +kernel), ?_⟩
  replace h := zq_nx3 (q := 21) h rfl
  refine ⟨zq_k_s1 16 (fun z => .bipush z) (-2) h rfl (zq_o_16 _) (by decide +kernel), ?_⟩
  replace h := zq_nx2 (q := 23) h rfl
  refine ⟨zq_k_n 172 h rfl (zq_o_172 _), ?_⟩
  replace h := zq_nx1 (q := 24) h rfl
  refine ⟨zq_k_n 42 h rfl (zq_o_42 _), ?_⟩
  replace h := zq_nx1 (q := 25) h rfl
  refine ⟨zq_k_n 3 h rfl (zq_o_3 _), ?_⟩
  replace h := zq_nx1 (q := 26) h rfl
  refine ⟨zq_k_s1 16 (fun z => .bipush z) 66 h rfl (zq_o_16 _) (by decide +kernel), ?_⟩
  replace h := zq_nx2 (q := 28) h rfl
  refine ⟨zq_k_n 27 h rfl (zq_o_27 _), ?_⟩
  replace h := zq_nx1 (q := 29) h rfl
  refine ⟨zq_k_n 4 h rfl (zq_o_4 _), ?_⟩
  replace h := zq_nx1 (q := 30) h rfl
  refine ⟨zq_k_n 96 h rfl (zq_o_96 _), ?_⟩
  replace h := zq_nx1 (q := 31) h rfl
  refine ⟨zq_k_n 104 h rfl (zq_o_104 _), ?_⟩
  replace h := zq_nx1 (q := 32) h rfl
  refine ⟨zq_k_u2 182 (fun z => .invokevirtual z) 325 h rfl (zq_o_182 _) (by decide +kernel), ?_⟩
  replace h := zq_nx3 (q := 35) h rfl
  exact zq_k_n 42 h rfl (zq_o_42 _)
theorem d_M_back_0 : decode prog_10_method_85_code 0 = .ok (.iload_n 1, 1) := dd_M_back_0.1
theorem d_M_back_1 : decode prog_10_method_85_code 1 = .ok (.i2l, 1) := dd_M_back_0.2.1
theorem d_M_back_2 : decode prog_10_method_85_code 2 = .ok (.lconst 0, 1) := dd_M_back_0.2.2.1
theorem d_M_back_3 : decode prog_10_method_85_code 3 = .ok (.lconst 1, 1) := dd_M_back_0.2.2.2.1
theorem d_M_back_4 : decode prog_10_method_85_code 4 = .ok (.invokestatic 114, 3) := dd_M_back_0.2.2.2.2.1
theorem d_M_back_7 : decode prog_10_method_85_code 7 = .ok (.ifCond .ne 5, 3) := dd_M_back_0.2.2.2.2.2.1
theorem d_M_back_10 : decode prog_10_method_85_code 10 = .ok (.iconst (-1), 1) := dd_M_back_0.2.2.2.2.2.2.1
theorem d_M_back_11 : decode prog_10_method_85_code 11 = .ok (.ireturn, 1) := dd_M_back_0.2.2.2.2.2.2.2.1
theorem d_M_back_12 : decode prog_10_method_85_code 12 = .ok (.aload_n 0, 1) := dd_M_back_0.2.2.2.2.2.2.2.2.1
theorem d_M_back_13 : decode prog_10_method_85_code 13 = .ok (.getfield 13, 3) := dd_M_back_0.2.2.2.2.2.2.2.2.2.1
theorem d_M_back_16 : decode prog_10_method_85_code 16 = .ok (.iload_n 1, 1) := dd_M_back_0.2.2.2.2.2.2.2.2.2.2.1
theorem d_M_back_17 : decode prog_10_method_85_code 17 = .ok (.baload, 1) := dd_M_back_0.2.2.2.2.2.2.2.2.2.2.2.1
theorem d_M_back_18 : decode prog_10_method_85_code 18 = .ok (.ifCond .ne 6, 3) := dd_M_back_0.2.2.2.2.2.2.2.2.2.2.2.2.1
theorem d_M_back_21 : decode prog_10_method_85_code 21 = .ok (.bipush (-2), 2) := dd_M_back_0.2.2.2.2.2.2.2.2.2.2.2.2.2.1
theorem d_M_back_23 : decode prog_10_method_85_code 23 = .ok (.ireturn, 1) := dd_M_back_0.2.2.2.2.2.2.2.2.2.2.2.2.2.2.1
theorem d_M_back_24 : decode prog_10_method_85_code 24 = .ok (.aload_n 0, 1) := dd_M_back_0.2.2.2.2.2.2.2.2.2.2.2.2.2.2.2.1
theorem d_M_back_25 : decode prog_10_method_85_code 25 = .ok (.iconst 0, 1) := dd_M_back_0.2.2.2.2.2.2.2.2.2.2.2.2.2.2.2.2.1
theorem d_M_back_26 : decode prog_10_method_85_code 26 = .ok (.bipush 66, 2) := dd_M_back_0.2.2.2.2.2.2.2.2.2.2.2.2.2.2.2.2.2.1
theorem d_M_back_28 : decode prog_10_method_85_code 28 = .ok (.iload_n 1, 1) := dd_M_back_0.2.2.2.2.2.2.2.2.2.2.2.2.2.2.2.2.2.2.1
theorem d_M_back_29 : decode prog_10_method_85_code 29 = .ok (.iconst 1, 1) := dd_M_back_0.2.2.2.2.2.2.2.2.2.2.2.2.2.2.2.2.2.2.2.1
theorem d_M_back_30 : decode prog_10_method_85_code 30 = .ok (.iadd, 1) := dd_M_back_0.2.2.2.2.2.2.2.2.2.2.2.2.2.2.2.2.2.2.2.2.1
theorem d_M_back_31 : decode prog_10_method_85_code 31 = .ok (.imul, 1) := dd_M_back_0.2.2.2.2.2.2.2.2.2.2.2.2.2.2.2.2.2.2.2.2.2.1
theorem d_M_back_32 : decode prog_10_method_85_code 32 = .ok (.invokevirtual 325, 3) := dd_M_back_0.2.2.2.2.2.2.2.2.2.2.2.2.2.2.2.2.2.2.2.2.2.2.1
theorem d_M_back_35 : decode prog_10_method_85_code 35 = .ok (.aload_n 0, 1) := dd_M_back_0.2.2.2.2.2.2.2.2.2.2.2.2.2.2.2.2.2.2.2.2.2.2.2
set_option maxRecDepth 100000 in
theorem dd_M_back_36 : (decode prog_10_method_85_code 36 = .ok (.getfield 7, 3)) ∧ (decode prog_10_method_85_code 39 = .ok (.bipush 39, 2)) ∧ (decode prog_10_method_85_code 41 = .ok (.iaload, 1)) ∧ (decode prog_10_method_85_code 42 = .ok (.ireturn, 1)) := by
  have h : List.drop 36 prog_10_method_85_code.data.toList = 0xb4 :: _ := rfl
  refine ⟨zq_k_u2 180 (fun z => .getfield z) 7 h rfl (zq_o_180 _) (by decide +kernel), ?_⟩
  replace h := zq_nx3 (q := 39) h rfl
  refine ⟨zq_k_s1 16 (fun z => .bipush z) 39 h rfl (zq_o_16 _) (by decide +kernel), ?_⟩
  replace h := zq_nx2 (q := 41) h rfl
  refine ⟨zq_k_n 46 h rfl (zq_o_46 _), ?_⟩
  replace h := zq_nx1 (q := 42) h rfl
  exact zq_k_n 172 h rfl (zq_o_172 _)
theorem d_M_back_36 : decode prog_10_method_85_code 36 = .ok (.getfield 7, 3) := dd_M_back_36.1
theorem d_M_back_39 : decode prog_10_method_85_code 39 = .ok (.bipush 39, 2) := dd_M_back_36.2.1
theorem d_M_back_41 : decode prog_10_method_85_code 41 = .ok (.iaload, 1) := dd_M_back_36.2.2.1
theorem d_M_back_42 : decode prog_10_method_85_code 42 = .ok (.ireturn, 1) := dd_M_back_36.2.2.2
def f_M_back_0  (a0 : Nat) (a1 : Int32) (h : mH) : Option (Int32 × mH) :=
  bd2 (f_M_in a1.toInt64 (0 : Int64) (1 : Int64) h) fun x3 h1 =>
  if x3 = 0 then
    some (((-1) : Int32), h1)
  else
    bd1 (gR h1 a0 8 1) fun x4 =>
    bd1 (aI h1 2 x4 a1) fun x6 =>
    if x6 = 0 then
      some (((-2) : Int32), h1)
    else
      bd1 (kC h1 a0 8) fun _ =>
      bd1 (f_M_copies a0 (0 : Int32) ((66 : Int32) * (a1 + (1 : Int32))) h1) fun h10 =>
      bd1 (gR h10 a0 8 0) fun x12 =>
      bd1 (aI h10 0 x12 (39 : Int32)) fun x14 =>
      some (x14, h10)
set_option maxRecDepth 20000 in
theorem t_M_back_0 {sc : Nat × (Nat → Int32)}  (a0 : Nat) (a1 : Int32) (h : mH) (r : Int32) (h' : mH) (hf : f_M_back_0  a0 a1 h = some (r, h')) : G sc y_M_back prog_10_method_85_code 2 (some .int) 1 25 0 [(0, .ref a0), (1, .int a1)] [] h (some (.int r)) h' := by
  unfold f_M_back_0 at hf
  refine g_iload_n (pc := 0) 1 d_M_back_0 rfl rfl ?_
  refine g_i2l (pc := 1) d_M_back_1 ?_
  refine g_lconst (pc := 2) (0 : Int64) d_M_back_2 (by decide) ?_
  refine g_lconst (pc := 3) (1 : Int64) d_M_back_3 (by decide) ?_
  obtain ⟨x3, h1, e2, hf⟩ := bd2_e hf
  refine g_callS (pc := 4) [.long a1.toInt64, .long (0 : Int64), .long (1 : Int64)] (site_of si_M_in (by decide) (by decide)) wd_1061 wd_1062 d_M_back_4 (Nat.le_of_ble_eq_true rfl) (fun z => absurd z (by decide)) (fun z => absurd z (by decide)) (fun z => absurd z (by decide)) (c_M_in e2) rfl ?_
  refine g_st [.int x3] rfl ?_
  refine g_ifne (pc := 7) 12 d_M_back_7 (by decide) (fun c17 => ?_) (fun c17 => ?_)
  · replace hf := (if_neg c17).symm.trans hf
    refine g_aload_n (pc := 12) 0 d_M_back_12 rfl rfl ?_
    obtain ⟨x4, e5, hf⟩ := bd1_e hf
    refine g_get (pc := 13) (ci := 8) (kk := 1) d_M_back_13 rfl in_M (by decide) wd_939 (gR_spec e5) ?_
    refine g_iload_n (pc := 16) 1 d_M_back_16 rfl rfl ?_
    obtain ⟨x6, e7, hf⟩ := bd1_e hf
    refine g_zald (pc := 17) d_M_back_17 e7 ?_
    refine g_ifne (pc := 18) 24 d_M_back_18 (by decide) (fun c16 => ?_) (fun c16 => ?_)
    · replace hf := (if_neg c16).symm.trans hf
      refine g_aload_n (pc := 24) 0 d_M_back_24 rfl rfl ?_
      refine g_iconst (pc := 25) (0 : Int32) d_M_back_25 (by decide) ?_
      refine g_bipush (pc := 26) (66 : Int32) d_M_back_26 (by decide) ?_
      refine g_iload_n (pc := 28) 1 d_M_back_28 rfl rfl ?_
      refine g_iconst (pc := 29) (1 : Int32) d_M_back_29 (by decide) ?_
      refine g_iadd (pc := 30) d_M_back_30 ?_
      refine g_imul (pc := 31) d_M_back_31 ?_
      obtain ⟨u9, e8, hf⟩ := bd1_e hf
      obtain ⟨h10, e11, hf⟩ := bd1_e hf
      refine g_callV (pc := 32) (ci := 8) [.int (0 : Int32), .int ((66 : Int32) * (a1 + (1 : Int32)))] (site_of si_M_copies (by decide) (by decide)) wd_1384 wd_1386 wp_74 d_M_back_32 rfl e8 (Nat.le_of_ble_eq_true rfl) (fun z => absurd z (by decide)) (fun z => absurd z (by decide)) (fun z => absurd z (by decide)) (c_M_copies e11) rfl ?_
      refine g_st [] rfl ?_
      refine g_aload_n (pc := 35) 0 d_M_back_35 rfl rfl ?_
      obtain ⟨x12, e13, hf⟩ := bd1_e hf
      refine g_get (pc := 36) (ci := 8) (kk := 0) d_M_back_36 rfl in_M (by decide) wd_938 (gR_spec e13) ?_
      refine g_bipush (pc := 39) (39 : Int32) d_M_back_39 (by decide) ?_
      obtain ⟨x14, e15, hf⟩ := bd1_e hf
      refine g_iald (pc := 41) d_M_back_41 e15 ?_
      obtain ⟨rfl, rfl⟩ := ret2 hf
      exact g_iret (pc := 42) rfl d_M_back_42
    · replace hf := (if_pos c16).symm.trans hf
      refine g_bipush (pc := 21) ((-2) : Int32) d_M_back_21 (by decide) ?_
      obtain ⟨rfl, rfl⟩ := ret2 hf
      exact g_iret (pc := 23) rfl d_M_back_23
  · replace hf := (if_pos c17).symm.trans hf
    refine g_iconst (pc := 10) ((-1) : Int32) d_M_back_10 (by decide) ?_
    obtain ⟨rfl, rfl⟩ := ret2 hf
    exact g_iret (pc := 11) rfl d_M_back_11
def f_M_back (a0 : Nat) (a1 : Int32) (h : mH) : Option (Int32 × mH) := f_M_back_0 a0 a1 h
theorem c_M_back {sc : Nat × (Nat → Int32)} {a0 : Nat} {a1 : Int32} {h : mH} {r : Int32} {h' : mH} (hf : f_M_back a0 a1 h = some (r, h')) : MM sc y_M_back prog_10_method_85_code 2 (some .int) 1 25 [.ref a0, .int a1] h (some (.int r)) h' :=
  mm_of_G (by decide) (Nat.le_of_ble_eq_true rfl) (t_M_back_0 _ _ _ _ _ hf)
/-! M isSheet (II)Z -/
set_option maxRecDepth 100000 in
theorem dd_M_isSheet_0 : (decode prog_10_method_86_code 0 = .ok (.iload_n 0, 1)) ∧ (decode prog_10_method_86_code 1 = .ok (.i2l, 1)) ∧ (decode prog_10_method_86_code 2 = .ok (.lconst 0, 1)) ∧ (decode prog_10_method_86_code 3 = .ok (.ldc2_w 251, 3)) ∧ (decode prog_10_method_86_code 6 = .ok (.invokestatic 114, 3)) ∧ (decode prog_10_method_86_code 9 = .ok (.ifCond .eq 19, 3)) ∧ (decode prog_10_method_86_code 12 = .ok (.iload_n 1, 1)) ∧ (decode prog_10_method_86_code 13 = .ok (.i2l, 1)) ∧ (decode prog_10_method_86_code 14 = .ok (.lconst 0, 1)) ∧ (decode prog_10_method_86_code 15 = .ok (.ldc2_w 273, 3)) ∧ (decode prog_10_method_86_code 18 = .ok (.invokestatic 114, 3)) ∧ (decode prog_10_method_86_code 21 = .ok (.ifCond .eq 7, 3)) ∧ (decode prog_10_method_86_code 24 = .ok (.iconst 1, 1)) ∧ (decode prog_10_method_86_code 25 = .ok (.goto 4, 3)) ∧ (decode prog_10_method_86_code 28 = .ok (.iconst 0, 1)) ∧ (decode prog_10_method_86_code 29 = .ok (.ireturn, 1)) := by
  have h : List.drop 0 prog_10_method_86_code.data.toList = 0x1a :: _ := rfl
  refine ⟨zq_k_n 26 h rfl (zq_o_26 _), ?_⟩
  replace h := zq_nx1 (q := 1) h rfl
  refine ⟨zq_k_n 133 h rfl (zq_o_133 _), ?_⟩
  replace h := zq_nx1 (q := 2) h rfl
  refine ⟨zq_k_n 9 h rfl (zq_o_9 _), ?_⟩
  replace h := zq_nx1 (q := 3) h rfl
  refine ⟨zq_k_u2 20 (fun z => .ldc2_w z) 251 h rfl (zq_o_20 _) (by decide +kernel), ?_⟩
  replace h := zq_nx3 (q := 6) h rfl
  refine ⟨zq_k_u2 184 (fun z => .invokestatic z) 114 h rfl (zq_o_184 _) (by decide +kernel), ?_⟩
  replace h := zq_nx3 (q := 9) h rfl
  refine ⟨zq_k_s2 153 (fun z => .ifCond .eq z) 19 h rfl (zq_o_153 _) (by decide +kernel), ?_⟩
  replace h := zq_nx3 (q := 12) h rfl
  refine ⟨zq_k_n 27 h rfl (zq_o_27 _), ?_⟩
  replace h := zq_nx1 (q := 13) h rfl
  refine ⟨zq_k_n 133 h rfl (zq_o_133 _), ?_⟩
  replace h := zq_nx1 (q := 14) h rfl
  refine ⟨zq_k_n 9 h rfl (zq_o_9 _), ?_⟩
  replace h := zq_nx1 (q := 15) h rfl
  refine ⟨zq_k_u2 20 (fun z => .ldc2_w z) 273 h rfl (zq_o_20 _) (by decide +kernel), ?_⟩
  replace h := zq_nx3 (q := 18) h rfl
  refine ⟨zq_k_u2 184 (fun z => .invokestatic z) 114 h rfl (zq_o_184 _) (by decide +kernel), ?_⟩
  replace h := zq_nx3 (q := 21) h rfl
  refine ⟨zq_k_s2 153 (fun z => .ifCond .eq z) 7 h rfl (zq_o_153 _) (by decide +kernel), ?_⟩
  replace h := zq_nx3 (q := 24) h rfl
  refine ⟨zq_k_n 4 h rfl (zq_o_4 _), ?_⟩
  replace h := zq_nx1 (q := 25) h rfl
  refine ⟨zq_k_s2 167 (fun z => .goto z) 4 h rfl (zq_o_167 _) (by decide +kernel), ?_⟩
  replace h := zq_nx3 (q := 28) h rfl
  refine ⟨zq_k_n 3 h rfl (zq_o_3 _), ?_⟩
  replace h := zq_nx1 (q := 29) h rfl
  exact zq_k_n 172 h rfl (zq_o_172 _)
theorem d_M_isSheet_0 : decode prog_10_method_86_code 0 = .ok (.iload_n 0, 1) := dd_M_isSheet_0.1
theorem d_M_isSheet_1 : decode prog_10_method_86_code 1 = .ok (.i2l, 1) := dd_M_isSheet_0.2.1
theorem d_M_isSheet_2 : decode prog_10_method_86_code 2 = .ok (.lconst 0, 1) := dd_M_isSheet_0.2.2.1
theorem d_M_isSheet_3 : decode prog_10_method_86_code 3 = .ok (.ldc2_w 251, 3) := dd_M_isSheet_0.2.2.2.1
theorem d_M_isSheet_6 : decode prog_10_method_86_code 6 = .ok (.invokestatic 114, 3) := dd_M_isSheet_0.2.2.2.2.1
theorem d_M_isSheet_9 : decode prog_10_method_86_code 9 = .ok (.ifCond .eq 19, 3) := dd_M_isSheet_0.2.2.2.2.2.1
theorem d_M_isSheet_12 : decode prog_10_method_86_code 12 = .ok (.iload_n 1, 1) := dd_M_isSheet_0.2.2.2.2.2.2.1
theorem d_M_isSheet_13 : decode prog_10_method_86_code 13 = .ok (.i2l, 1) := dd_M_isSheet_0.2.2.2.2.2.2.2.1
theorem d_M_isSheet_14 : decode prog_10_method_86_code 14 = .ok (.lconst 0, 1) := dd_M_isSheet_0.2.2.2.2.2.2.2.2.1
theorem d_M_isSheet_15 : decode prog_10_method_86_code 15 = .ok (.ldc2_w 273, 3) := dd_M_isSheet_0.2.2.2.2.2.2.2.2.2.1
theorem d_M_isSheet_18 : decode prog_10_method_86_code 18 = .ok (.invokestatic 114, 3) := dd_M_isSheet_0.2.2.2.2.2.2.2.2.2.2.1
theorem d_M_isSheet_21 : decode prog_10_method_86_code 21 = .ok (.ifCond .eq 7, 3) := dd_M_isSheet_0.2.2.2.2.2.2.2.2.2.2.2.1
theorem d_M_isSheet_24 : decode prog_10_method_86_code 24 = .ok (.iconst 1, 1) := dd_M_isSheet_0.2.2.2.2.2.2.2.2.2.2.2.2.1
theorem d_M_isSheet_25 : decode prog_10_method_86_code 25 = .ok (.goto 4, 3) := dd_M_isSheet_0.2.2.2.2.2.2.2.2.2.2.2.2.2.1
theorem d_M_isSheet_28 : decode prog_10_method_86_code 28 = .ok (.iconst 0, 1) := dd_M_isSheet_0.2.2.2.2.2.2.2.2.2.2.2.2.2.2.1
theorem d_M_isSheet_29 : decode prog_10_method_86_code 29 = .ok (.ireturn, 1) := dd_M_isSheet_0.2.2.2.2.2.2.2.2.2.2.2.2.2.2.2
def f_M_isSheet_28   (h : mH) : Option (Int32 × mH) :=
  some ((0 : Int32), h)
set_option maxRecDepth 20000 in
theorem t_M_isSheet_28 {sc : Nat × (Nat → Int32)}   (h : mH) (r : Int32) (h' : mH) (hf : f_M_isSheet_28   h = some (r, h')) : G sc y_M_isSheet prog_10_method_86_code 2 (some .boolean) 1 25 28 [] [] h (some (.int r)) h' := by
  unfold f_M_isSheet_28 at hf
  refine g_iconst (pc := 28) (0 : Int32) d_M_isSheet_28 (by decide) ?_
  obtain ⟨rfl, rfl⟩ := ret2 hf
  exact g_zret (pc := 29) rfl rfl d_M_isSheet_29
def f_M_isSheet_0  (a0 : Int32) (a1 : Int32) (h : mH) : Option (Int32 × mH) :=
  bd2 (f_M_in a0.toInt64 (0 : Int64) (3 : Int64) h) fun x3 h1 =>
  if x3 = 0 then
    f_M_isSheet_28  h1
  else
    bd2 (f_M_in a1.toInt64 (0 : Int64) (2 : Int64) h1) fun x6 h4 =>
    if x6 = 0 then
      f_M_isSheet_28  h4
    else
      some ((1 : Int32), h4)
set_option maxRecDepth 20000 in
theorem t_M_isSheet_0 {sc : Nat × (Nat → Int32)}  (a0 : Int32) (a1 : Int32) (h : mH) (r : Int32) (h' : mH) (hf : f_M_isSheet_0  a0 a1 h = some (r, h')) : G sc y_M_isSheet prog_10_method_86_code 2 (some .boolean) 1 25 0 [(0, .int a0), (1, .int a1)] [] h (some (.int r)) h' := by
  unfold f_M_isSheet_0 at hf
  refine g_iload_n (pc := 0) 0 d_M_isSheet_0 rfl rfl ?_
  refine g_i2l (pc := 1) d_M_isSheet_1 ?_
  refine g_lconst (pc := 2) (0 : Int64) d_M_isSheet_2 (by decide) ?_
  refine g_ldc2 (pc := 3) (3 : Int64) d_M_isSheet_3 wd_1273 ?_
  obtain ⟨x3, h1, e2, hf⟩ := bd2_e hf
  refine g_callS (pc := 6) [.long a0.toInt64, .long (0 : Int64), .long (3 : Int64)] (site_of si_M_in (by decide) (by decide)) wd_1061 wd_1062 d_M_isSheet_6 (Nat.le_of_ble_eq_true rfl) (fun z => absurd z (by decide)) (fun z => absurd z (by decide)) (fun z => absurd z (by decide)) (c_M_in e2) rfl ?_
  refine g_st [.int x3] rfl ?_
  refine g_ifeq (pc := 9) 28 d_M_isSheet_9 (by decide) (fun c8 => ?_) (fun c8 => ?_)
  · replace hf := (if_pos c8).symm.trans hf
    refine g_lv [] rfl ?_
    exact t_M_isSheet_28  _ _ _  hf
  · replace hf := (if_neg c8).symm.trans hf
    refine g_iload_n (pc := 12) 1 d_M_isSheet_12 rfl rfl ?_
    refine g_i2l (pc := 13) d_M_isSheet_13 ?_
    refine g_lconst (pc := 14) (0 : Int64) d_M_isSheet_14 (by decide) ?_
    refine g_ldc2 (pc := 15) (2 : Int64) d_M_isSheet_15 wd_1306 ?_
    obtain ⟨x6, h4, e5, hf⟩ := bd2_e hf
    refine g_callS (pc := 18) [.long a1.toInt64, .long (0 : Int64), .long (2 : Int64)] (site_of si_M_in (by decide) (by decide)) wd_1061 wd_1062 d_M_isSheet_18 (Nat.le_of_ble_eq_true rfl) (fun z => absurd z (by decide)) (fun z => absurd z (by decide)) (fun z => absurd z (by decide)) (c_M_in e5) rfl ?_
    refine g_st [.int x6] rfl ?_
    refine g_ifeq (pc := 21) 28 d_M_isSheet_21 (by decide) (fun c7 => ?_) (fun c7 => ?_)
    · replace hf := (if_pos c7).symm.trans hf
      refine g_lv [] rfl ?_
      exact t_M_isSheet_28  _ _ _  hf
    · replace hf := (if_neg c7).symm.trans hf
      refine g_iconst (pc := 24) (1 : Int32) d_M_isSheet_24 (by decide) ?_
      refine g_goto (pc := 25) 29 d_M_isSheet_25 (by decide) ?_
      obtain ⟨rfl, rfl⟩ := ret2 hf
      exact g_zret (pc := 29) rfl rfl d_M_isSheet_29
def f_M_isSheet (a0 : Int32) (a1 : Int32) (h : mH) : Option (Int32 × mH) := f_M_isSheet_0 a0 a1 h
theorem c_M_isSheet {sc : Nat × (Nat → Int32)} {a0 : Int32} {a1 : Int32} {h : mH} {r : Int32} {h' : mH} (hf : f_M_isSheet a0 a1 h = some (r, h')) : MM sc y_M_isSheet prog_10_method_86_code 2 (some .boolean) 1 25 [.int a0, .int a1] h (some (.int r)) h' :=
  mm_of_G (by decide) (Nat.le_of_ble_eq_true rfl) (t_M_isSheet_0 _ _ _ _ _ hf)
/-! M sheet (III)I -/
set_option maxRecDepth 100000 in
theorem dd_M_sheet_0 : (decode prog_10_method_87_code 0 = .ok (.iload_n 1, 1)) ∧ (decode prog_10_method_87_code 1 = .ok (.iload_n 2, 1)) ∧ (decode prog_10_method_87_code 2 = .ok (.invokestatic 329, 3)) ∧ (decode prog_10_method_87_code 5 = .ok (.ifCond .eq 9, 3)) ∧ (decode prog_10_method_87_code 8 = .ok (.iload_n 3, 1)) ∧ (decode prog_10_method_87_code 9 = .ok (.bipush 40, 2)) ∧ (decode prog_10_method_87_code 11 = .ok (.if_icmp .le 5, 3)) ∧ (decode prog_10_method_87_code 14 = .ok (.iconst (-1), 1)) ∧ (decode prog_10_method_87_code 15 = .ok (.ireturn, 1)) ∧ (decode prog_10_method_87_code 16 = .ok (.iload_n 3, 1)) ∧ (decode prog_10_method_87_code 17 = .ok (.ifCond .ge 6, 3)) ∧ (decode prog_10_method_87_code 20 = .ok (.bipush (-14), 2)) ∧ (decode prog_10_method_87_code 22 = .ok (.ireturn, 1)) ∧ (decode prog_10_method_87_code 23 = .ok (.aload_n 0, 1)) ∧ (decode prog_10_method_87_code 24 = .ok (.getfield 78, 3)) ∧ (decode prog_10_method_87_code 27 = .ok (.iload_n 1, 1)) ∧ (decode prog_10_method_87_code 28 = .ok (.iload_n 2, 1)) ∧ (decode prog_10_method_87_code 29 = .ok (.iastore, 1)) ∧ (decode prog_10_method_87_code 30 = .ok (.aload_n 0, 1)) ∧ (decode prog_10_method_87_code 31 = .ok (.getfield 81, 3)) ∧ (decode prog_10_method_87_code 34 = .ok (.iload_n 1, 1)) ∧ (decode prog_10_method_87_code 35 = .ok (.iload_n 3, 1)) ∧ (decode prog_10_method_87_code 36 = .ok (.iastore, 1)) ∧ (decode prog_10_method_87_code 37 = .ok (.iconst 0, 1)) := by
  have h : List.drop 0 prog_10_method_87_code.data.toList = 0x1b :: _ := rfl
  refine ⟨zq_k_n 27 h rfl (zq_o_27 _), ?_⟩
  replace h := zq_nx1 (q := 1) h rfl
  refine ⟨zq_k_n 28 h rfl (zq_o_28 _), ?_⟩
  replace h := zq_nx1 (q := 2) h rfl
  refine ⟨zq_k_u2 184 (fun z => .invokestatic z) 329 h rfl (zq_o_184 _) (by decide +kernel), ?_⟩
  replace h := zq_nx3 (q := 5) h rfl
  refine ⟨zq_k_s2 153 (fun z => .ifCond .eq z) 9 h rfl (zq_o_153 _) (by decide +kernel), ?_⟩
  replace h := zq_nx3 (q := 8) h rfl
  refine ⟨zq_k_n 29 h rfl (zq_o_29 _), ?_⟩
  replace h := zq_nx1 (q := 9) h rfl
  refine ⟨zq_k_s1 16 (fun z => .bipush z) 40 h rfl (zq_o_16 _) (by decide +kernel), ?_⟩
  replace h := zq_nx2 (q := 11) h rfl
  refine ⟨zq_k_s2 164 (fun z => .if_icmp .le z) 5 h rfl (zq_o_164 _) (by decide +kernel), ?_⟩
  replace h := zq_nx3 (q := 14) h rfl
  refine ⟨zq_k_n 2 h rfl (zq_o_2 _), ?_⟩
  replace h := zq_nx1 (q := 15) h rfl
  refine ⟨zq_k_n 172 h rfl (zq_o_172 _), ?_⟩
  replace h := zq_nx1 (q := 16) h rfl
  refine ⟨zq_k_n 29 h rfl (zq_o_29 _), ?_⟩
  replace h := zq_nx1 (q := 17) h rfl
  refine ⟨zq_k_s2 156 (fun z => .ifCond .ge z) 6 h rfl (zq_o_156 _) (by decide +kernel), ?_⟩
  replace h := zq_nx3 (q := 20) h rfl
  refine ⟨zq_k_s1 16 (fun z => .bipush z) (-14) h rfl (zq_o_16 _) (by decide +kernel), ?_⟩
  replace h := zq_nx2 (q := 22) h rfl
  refine ⟨zq_k_n 172 h rfl (zq_o_172 _), ?_⟩
  replace h := zq_nx1 (q := 23) h rfl
  refine ⟨zq_k_n 42 h rfl (zq_o_42 _), ?_⟩
  replace h := zq_nx1 (q := 24) h rfl
  refine ⟨zq_k_u2 180 (fun z => .getfield z) 78 h rfl (zq_o_180 _) (by decide +kernel), ?_⟩
  replace h := zq_nx3 (q := 27) h rfl
  refine ⟨zq_k_n 27 h rfl (zq_o_27 _), ?_⟩
  replace h := zq_nx1 (q := 28) h rfl
  refine ⟨zq_k_n 28 h rfl (zq_o_28 _), ?_⟩
  replace h := zq_nx1 (q := 29) h rfl
  refine ⟨zq_k_n 79 h rfl (zq_o_79 _), ?_⟩
  replace h := zq_nx1 (q := 30) h rfl
  refine ⟨zq_k_n 42 h rfl (zq_o_42 _), ?_⟩
  replace h := zq_nx1 (q := 31) h rfl
  refine ⟨zq_k_u2 180 (fun z => .getfield z) 81 h rfl (zq_o_180 _) (by decide +kernel), ?_⟩
  replace h := zq_nx3 (q := 34) h rfl
  refine ⟨zq_k_n 27 h rfl (zq_o_27 _), ?_⟩
  replace h := zq_nx1 (q := 35) h rfl
  refine ⟨zq_k_n 29 h rfl (zq_o_29 _), ?_⟩
  replace h := zq_nx1 (q := 36) h rfl
  refine ⟨zq_k_n 79 h rfl (zq_o_79 _), ?_⟩
  replace h := zq_nx1 (q := 37) h rfl
  exact zq_k_n 3 h rfl (zq_o_3 _)
theorem d_M_sheet_0 : decode prog_10_method_87_code 0 = .ok (.iload_n 1, 1) := dd_M_sheet_0.1
theorem d_M_sheet_1 : decode prog_10_method_87_code 1 = .ok (.iload_n 2, 1) := dd_M_sheet_0.2.1
theorem d_M_sheet_2 : decode prog_10_method_87_code 2 = .ok (.invokestatic 329, 3) := dd_M_sheet_0.2.2.1
theorem d_M_sheet_5 : decode prog_10_method_87_code 5 = .ok (.ifCond .eq 9, 3) := dd_M_sheet_0.2.2.2.1
theorem d_M_sheet_8 : decode prog_10_method_87_code 8 = .ok (.iload_n 3, 1) := dd_M_sheet_0.2.2.2.2.1
theorem d_M_sheet_9 : decode prog_10_method_87_code 9 = .ok (.bipush 40, 2) := dd_M_sheet_0.2.2.2.2.2.1
theorem d_M_sheet_11 : decode prog_10_method_87_code 11 = .ok (.if_icmp .le 5, 3) := dd_M_sheet_0.2.2.2.2.2.2.1
theorem d_M_sheet_14 : decode prog_10_method_87_code 14 = .ok (.iconst (-1), 1) := dd_M_sheet_0.2.2.2.2.2.2.2.1
theorem d_M_sheet_15 : decode prog_10_method_87_code 15 = .ok (.ireturn, 1) := dd_M_sheet_0.2.2.2.2.2.2.2.2.1
theorem d_M_sheet_16 : decode prog_10_method_87_code 16 = .ok (.iload_n 3, 1) := dd_M_sheet_0.2.2.2.2.2.2.2.2.2.1
theorem d_M_sheet_17 : decode prog_10_method_87_code 17 = .ok (.ifCond .ge 6, 3) := dd_M_sheet_0.2.2.2.2.2.2.2.2.2.2.1
theorem d_M_sheet_20 : decode prog_10_method_87_code 20 = .ok (.bipush (-14), 2) := dd_M_sheet_0.2.2.2.2.2.2.2.2.2.2.2.1
theorem d_M_sheet_22 : decode prog_10_method_87_code 22 = .ok (.ireturn, 1) := dd_M_sheet_0.2.2.2.2.2.2.2.2.2.2.2.2.1
theorem d_M_sheet_23 : decode prog_10_method_87_code 23 = .ok (.aload_n 0, 1) := dd_M_sheet_0.2.2.2.2.2.2.2.2.2.2.2.2.2.1
theorem d_M_sheet_24 : decode prog_10_method_87_code 24 = .ok (.getfield 78, 3) := dd_M_sheet_0.2.2.2.2.2.2.2.2.2.2.2.2.2.2.1
theorem d_M_sheet_27 : decode prog_10_method_87_code 27 = .ok (.iload_n 1, 1) := dd_M_sheet_0.2.2.2.2.2.2.2.2.2.2.2.2.2.2.2.1
theorem d_M_sheet_28 : decode prog_10_method_87_code 28 = .ok (.iload_n 2, 1) := dd_M_sheet_0.2.2.2.2.2.2.2.2.2.2.2.2.2.2.2.2.1
theorem d_M_sheet_29 : decode prog_10_method_87_code 29 = .ok (.iastore, 1) := dd_M_sheet_0.2.2.2.2.2.2.2.2.2.2.2.2.2.2.2.2.2.1
theorem d_M_sheet_30 : decode prog_10_method_87_code 30 = .ok (.aload_n 0, 1) := dd_M_sheet_0.2.2.2.2.2.2.2.2.2.2.2.2.2.2.2.2.2.2.1
theorem d_M_sheet_31 : decode prog_10_method_87_code 31 = .ok (.getfield 81, 3) := dd_M_sheet_0.2.2.2.2.2.2.2.2.2.2.2.2.2.2.2.2.2.2.2.1
theorem d_M_sheet_34 : decode prog_10_method_87_code 34 = .ok (.iload_n 1, 1) := dd_M_sheet_0.2.2.2.2.2.2.2.2.2.2.2.2.2.2.2.2.2.2.2.2.1
theorem d_M_sheet_35 : decode prog_10_method_87_code 35 = .ok (.iload_n 3, 1) := dd_M_sheet_0.2.2.2.2.2.2.2.2.2.2.2.2.2.2.2.2.2.2.2.2.2.1
theorem d_M_sheet_36 : decode prog_10_method_87_code 36 = .ok (.iastore, 1) := dd_M_sheet_0.2.2.2.2.2.2.2.2.2.2.2.2.2.2.2.2.2.2.2.2.2.2.1
theorem d_M_sheet_37 : decode prog_10_method_87_code 37 = .ok (.iconst 0, 1) := dd_M_sheet_0.2.2.2.2.2.2.2.2.2.2.2.2.2.2.2.2.2.2.2.2.2.2.2
set_option maxRecDepth 100000 in
theorem dd_M_sheet_38 : (decode prog_10_method_87_code 38 = .ok (.istore 4, 2)) ∧ (decode prog_10_method_87_code 40 = .ok (.iload 4, 2)) ∧ (decode prog_10_method_87_code 42 = .ok (.bipush 40, 2)) ∧ (decode prog_10_method_87_code 44 = .ok (.if_icmp .ge 22, 3)) ∧ (decode prog_10_method_87_code 47 = .ok (.aload_n 0, 1)) ∧ (decode prog_10_method_87_code 48 = .ok (.getfield 84, 3)) ∧ (decode prog_10_method_87_code 51 = .ok (.bipush 40, 2)) ∧ (decode prog_10_method_87_code 53 = .ok (.iload_n 1, 1)) ∧ (decode prog_10_method_87_code 54 = .ok (.imul, 1)) ∧ (decode prog_10_method_87_code 55 = .ok (.iload 4, 2)) ∧ (decode prog_10_method_87_code 57 = .ok (.iadd, 1)) ∧ (decode prog_10_method_87_code 58 = .ok (.iconst 0, 1)) ∧ (decode prog_10_method_87_code 59 = .ok (.iastore, 1)) ∧ (decode prog_10_method_87_code 60 = .ok (.iinc 4 1, 3)) ∧ (decode prog_10_method_87_code 63 = .ok (.goto (-23), 3)) ∧ (decode prog_10_method_87_code 66 = .ok (.iconst 1, 1)) ∧ (decode prog_10_method_87_code 67 = .ok (.ireturn, 1)) := by
  have h : List.drop 38 prog_10_method_87_code.data.toList = 0x36 :: _ := rfl
  refine ⟨zq_k_u1 54 (fun z => .istore z) 4 h rfl (zq_o_54 _) (by decide +kernel), ?_⟩
  replace h := zq_nx2 (q := 40) h rfl
  refine ⟨zq_k_u1 21 (fun z => .iload z) 4 h rfl (zq_o_21 _) (by decide +kernel), ?_⟩
  replace h := zq_nx2 (q := 42) h rfl
  refine ⟨zq_k_s1 16 (fun z => .bipush z) 40 h rfl (zq_o_16 _) (by decide +kernel), ?_⟩
  replace h := zq_nx2 (q := 44) h rfl
  refine ⟨zq_k_s2 162 (fun z => .if_icmp .ge z) 22 h rfl (zq_o_162 _) (by decide +kernel), ?_⟩
  replace h := zq_nx3 (q := 47) h rfl
  refine ⟨zq_k_n 42 h rfl (zq_o_42 _), ?_⟩
  replace h := zq_nx1 (q := 48) h rfl
  refine ⟨zq_k_u2 180 (fun z => .getfield z) 84 h rfl (zq_o_180 _) (by decide +kernel), ?_⟩
  replace h := zq_nx3 (q := 51) h rfl
  refine ⟨zq_k_s1 16 (fun z => .bipush z) 40 h rfl (zq_o_16 _) (by decide +kernel), ?_⟩
  replace h := zq_nx2 (q := 53) h rfl
  refine ⟨zq_k_n 27 h rfl (zq_o_27 _), ?_⟩
  replace h := zq_nx1 (q := 54) h rfl
  refine ⟨zq_k_n 104 h rfl (zq_o_104 _), ?_⟩
  replace h := zq_nx1 (q := 55) h rfl
  refine ⟨zq_k_u1 21 (fun z => .iload z) 4 h rfl (zq_o_21 _) (by decide +kernel), ?_⟩
  replace h := zq_nx2 (q := 57) h rfl
  refine ⟨zq_k_n 96 h rfl (zq_o_96 _), ?_⟩
  replace h := zq_nx1 (q := 58) h rfl
  refine ⟨zq_k_n 3 h rfl (zq_o_3 _), ?_⟩
  replace h := zq_nx1 (q := 59) h rfl
  refine ⟨zq_k_n 79 h rfl (zq_o_79 _), ?_⟩
  replace h := zq_nx1 (q := 60) h rfl
  refine ⟨zq_k_iinc 4 1 h rfl (zq_o_132 _) (by decide +kernel) (by decide +kernel), ?_⟩
  replace h := zq_nx3 (q := 63) h rfl
  refine ⟨zq_k_s2 167 (fun z => .goto z) (-23) h rfl (zq_o_167 _) (by decide +kernel), ?_⟩
  replace h := zq_nx3 (q := 66) h rfl
  refine ⟨zq_k_n 4 h rfl (zq_o_4 _), ?_⟩
  replace h := zq_nx1 (q := 67) h rfl
  exact zq_k_n 172 h rfl (zq_o_172 _)
theorem d_M_sheet_38 : decode prog_10_method_87_code 38 = .ok (.istore 4, 2) := dd_M_sheet_38.1
theorem d_M_sheet_40 : decode prog_10_method_87_code 40 = .ok (.iload 4, 2) := dd_M_sheet_38.2.1
theorem d_M_sheet_42 : decode prog_10_method_87_code 42 = .ok (.bipush 40, 2) := dd_M_sheet_38.2.2.1
theorem d_M_sheet_44 : decode prog_10_method_87_code 44 = .ok (.if_icmp .ge 22, 3) := dd_M_sheet_38.2.2.2.1
theorem d_M_sheet_47 : decode prog_10_method_87_code 47 = .ok (.aload_n 0, 1) := dd_M_sheet_38.2.2.2.2.1
theorem d_M_sheet_48 : decode prog_10_method_87_code 48 = .ok (.getfield 84, 3) := dd_M_sheet_38.2.2.2.2.2.1
theorem d_M_sheet_51 : decode prog_10_method_87_code 51 = .ok (.bipush 40, 2) := dd_M_sheet_38.2.2.2.2.2.2.1
theorem d_M_sheet_53 : decode prog_10_method_87_code 53 = .ok (.iload_n 1, 1) := dd_M_sheet_38.2.2.2.2.2.2.2.1
theorem d_M_sheet_54 : decode prog_10_method_87_code 54 = .ok (.imul, 1) := dd_M_sheet_38.2.2.2.2.2.2.2.2.1
theorem d_M_sheet_55 : decode prog_10_method_87_code 55 = .ok (.iload 4, 2) := dd_M_sheet_38.2.2.2.2.2.2.2.2.2.1
theorem d_M_sheet_57 : decode prog_10_method_87_code 57 = .ok (.iadd, 1) := dd_M_sheet_38.2.2.2.2.2.2.2.2.2.2.1
theorem d_M_sheet_58 : decode prog_10_method_87_code 58 = .ok (.iconst 0, 1) := dd_M_sheet_38.2.2.2.2.2.2.2.2.2.2.2.1
theorem d_M_sheet_59 : decode prog_10_method_87_code 59 = .ok (.iastore, 1) := dd_M_sheet_38.2.2.2.2.2.2.2.2.2.2.2.2.1
theorem d_M_sheet_60 : decode prog_10_method_87_code 60 = .ok (.iinc 4 1, 3) := dd_M_sheet_38.2.2.2.2.2.2.2.2.2.2.2.2.2.1
theorem d_M_sheet_63 : decode prog_10_method_87_code 63 = .ok (.goto (-23), 3) := dd_M_sheet_38.2.2.2.2.2.2.2.2.2.2.2.2.2.2.1
theorem d_M_sheet_66 : decode prog_10_method_87_code 66 = .ok (.iconst 1, 1) := dd_M_sheet_38.2.2.2.2.2.2.2.2.2.2.2.2.2.2.2.1
theorem d_M_sheet_67 : decode prog_10_method_87_code 67 = .ok (.ireturn, 1) := dd_M_sheet_38.2.2.2.2.2.2.2.2.2.2.2.2.2.2.2.2
def f_M_sheet_40b (rec40 : Nat → Int32 → Int32 → mH → Option (Int32 × mH)) (b0 : Nat) (b1 : Int32) (b4 : Int32) (h : mH) : Option (Int32 × mH) :=
  if (40 : Int32) ≤ b4 then
    some ((1 : Int32), h)
  else
    bd1 (gR h b0 8 37) fun x15 =>
    bd1 (sI h 0 x15 (((40 : Int32) * b1) + b4) (0 : Int32)) fun h17 =>
    rec40 b0 b1 (b4 + (1 : Int32)) h17
set_option maxRecDepth 20000 in
theorem t_M_sheet_40b {sc : Nat × (Nat → Int32)} (rec40 : Nat → Int32 → Int32 → mH → Option (Int32 × mH)) (hrec40 : ∀ (b0 : Nat) (b1 : Int32) (b4 : Int32) (h : mH) (r : Int32) (h' : mH), rec40 b0 b1 b4 h = some (r, h') → G sc y_M_sheet prog_10_method_87_code 5 (some .int) 2 46 40 [(0, .ref b0), (1, .int b1), (4, .int b4)] [] h (some (.int r)) h') (b0 : Nat) (b1 : Int32) (b4 : Int32) (h : mH) (r : Int32) (h' : mH) (hf : f_M_sheet_40b rec40 b0 b1 b4 h = some (r, h')) : G sc y_M_sheet prog_10_method_87_code 5 (some .int) 2 46 40 [(0, .ref b0), (1, .int b1), (4, .int b4)] [] h (some (.int r)) h' := by
  unfold f_M_sheet_40b at hf
  refine g_iload (pc := 40) 2 d_M_sheet_40 rfl ?_
  refine g_bipush (pc := 42) (40 : Int32) d_M_sheet_42 (by decide) ?_
  refine g_icmpge (pc := 44) 66 d_M_sheet_44 (by decide) (fun c19 => ?_) (fun c19 => ?_)
  · replace hf := (if_pos c19).symm.trans hf
    refine g_iconst (pc := 66) (1 : Int32) d_M_sheet_66 (by decide) ?_
    obtain ⟨rfl, rfl⟩ := ret2 hf
    exact g_iret (pc := 67) rfl d_M_sheet_67
  · replace hf := (if_neg c19).symm.trans hf
    refine g_aload_n (pc := 47) 0 d_M_sheet_47 rfl rfl ?_
    obtain ⟨x15, e16, hf⟩ := bd1_e hf
    refine g_get (pc := 48) (ci := 8) (kk := 37) d_M_sheet_48 rfl in_M (by decide) wd_975 (gR_spec e16) ?_
    refine g_bipush (pc := 51) (40 : Int32) d_M_sheet_51 (by decide) ?_
    refine g_iload_n (pc := 53) 1 d_M_sheet_53 rfl rfl ?_
    refine g_imul (pc := 54) d_M_sheet_54 ?_
    refine g_iload (pc := 55) 2 d_M_sheet_55 rfl ?_
    refine g_iadd (pc := 57) d_M_sheet_57 ?_
    refine g_iconst (pc := 58) (0 : Int32) d_M_sheet_58 (by decide) ?_
    obtain ⟨h17, e18, hf⟩ := bd1_e hf
    refine g_iast (pc := 59) d_M_sheet_59 e18 ?_
    refine g_iinc (pc := 60) 2 (b4 + (1 : Int32)) [(4, .int (b4 + (1 : Int32))), (0, .ref b0), (1, .int b1)] d_M_sheet_60 rfl rfl (Nat.le_of_ble_eq_true rfl) rfl ?_
    refine g_goto (pc := 63) 40 d_M_sheet_63 (by decide) ?_
    refine g_lv [1, 2, 0] rfl ?_
    exact hrec40 _ _ _ _ _ _  hf
def f_M_sheet_40  : Nat → Nat → Int32 → Int32 → mH → Option (Int32 × mH)
  | 0 => fun _ _ _ _ => none
  | n + 1 => f_M_sheet_40b  (f_M_sheet_40  n)
theorem t_M_sheet_40 {sc : Nat × (Nat → Int32)}  : ∀ (n : Nat) (b0 : Nat) (b1 : Int32) (b4 : Int32) (h : mH) (r : Int32) (h' : mH) (hf : f_M_sheet_40  n b0 b1 b4 h = some (r, h')), G sc y_M_sheet prog_10_method_87_code 5 (some .int) 2 46 40 [(0, .ref b0), (1, .int b1), (4, .int b4)] [] h (some (.int r)) h'
  | 0, _, _, _, _, _, _, hf => by cases hf
  | n + 1, _, _, _, _, _, _, hf => t_M_sheet_40b  (f_M_sheet_40  n) (t_M_sheet_40  n) _ _ _ _ _ _ hf
def f_M_sheet_14   (h : mH) : Option (Int32 × mH) :=
  some (((-1) : Int32), h)
set_option maxRecDepth 20000 in
theorem t_M_sheet_14 {sc : Nat × (Nat → Int32)}   (h : mH) (r : Int32) (h' : mH) (hf : f_M_sheet_14   h = some (r, h')) : G sc y_M_sheet prog_10_method_87_code 5 (some .int) 2 46 14 [] [] h (some (.int r)) h' := by
  unfold f_M_sheet_14 at hf
  refine g_iconst (pc := 14) ((-1) : Int32) d_M_sheet_14 (by decide) ?_
  obtain ⟨rfl, rfl⟩ := ret2 hf
  exact g_iret (pc := 15) rfl d_M_sheet_15
def f_M_sheet_0  (a0 : Nat) (a1 : Int32) (a2 : Int32) (a3 : Int32) (h : mH) : Option (Int32 × mH) :=
  bd2 (f_M_isSheet a1 a2 h) fun x3 h1 =>
  if x3 = 0 then
    f_M_sheet_14  h1
  else
    if a3 ≤ (40 : Int32) then
      if 0 ≤ a3 then
        bd1 (gR h1 a0 8 35) fun x4 =>
        bd1 (sI h1 0 x4 a1 a2) fun h6 =>
        bd1 (gR h6 a0 8 36) fun x8 =>
        bd1 (sI h6 0 x8 a1 a3) fun h10 =>
        f_M_sheet_40  FU a0 a1 (0 : Int32) h10
      else
        some (((-14) : Int32), h1)
    else
      f_M_sheet_14  h1
set_option maxRecDepth 20000 in
theorem t_M_sheet_0 {sc : Nat × (Nat → Int32)}  (a0 : Nat) (a1 : Int32) (a2 : Int32) (a3 : Int32) (h : mH) (r : Int32) (h' : mH) (hf : f_M_sheet_0  a0 a1 a2 a3 h = some (r, h')) : G sc y_M_sheet prog_10_method_87_code 5 (some .int) 2 46 0 [(0, .ref a0), (1, .int a1), (2, .int a2), (3, .int a3)] [] h (some (.int r)) h' := by
  unfold f_M_sheet_0 at hf
  refine g_iload_n (pc := 0) 1 d_M_sheet_0 rfl rfl ?_
  refine g_iload_n (pc := 1) 2 d_M_sheet_1 rfl rfl ?_
  obtain ⟨x3, h1, e2, hf⟩ := bd2_e hf
  refine g_callS (pc := 2) [.int a1, .int a2] (site_of si_M_isSheet (by decide) (by decide)) wd_1396 wd_1397 d_M_sheet_2 (Nat.le_of_ble_eq_true rfl) (fun z => absurd z (by decide)) (fun z => absurd z (by decide)) (fun z => absurd z (by decide)) (c_M_isSheet e2) rfl ?_
  refine g_st [.int x3] rfl ?_
  refine g_ifeq (pc := 5) 14 d_M_sheet_5 (by decide) (fun c14 => ?_) (fun c14 => ?_)
  · replace hf := (if_pos c14).symm.trans hf
    refine g_lv [] rfl ?_
    exact t_M_sheet_14  _ _ _  hf
  · replace hf := (if_neg c14).symm.trans hf
    refine g_iload_n (pc := 8) 3 d_M_sheet_8 rfl rfl ?_
    refine g_bipush (pc := 9) (40 : Int32) d_M_sheet_9 (by decide) ?_
    refine g_icmple (pc := 11) 16 d_M_sheet_11 (by decide) (fun c13 => ?_) (fun c13 => ?_)
    · replace hf := (if_pos c13).symm.trans hf
      refine g_iload_n (pc := 16) 3 d_M_sheet_16 rfl rfl ?_
      refine g_ifge (pc := 17) 23 d_M_sheet_17 (by decide) (fun c12 => ?_) (fun c12 => ?_)
      · replace hf := (if_pos c12).symm.trans hf
        refine g_aload_n (pc := 23) 0 d_M_sheet_23 rfl rfl ?_
        obtain ⟨x4, e5, hf⟩ := bd1_e hf
        refine g_get (pc := 24) (ci := 8) (kk := 35) d_M_sheet_24 rfl in_M (by decide) wd_973 (gR_spec e5) ?_
        refine g_iload_n (pc := 27) 1 d_M_sheet_27 rfl rfl ?_
        refine g_iload_n (pc := 28) 2 d_M_sheet_28 rfl rfl ?_
        obtain ⟨h6, e7, hf⟩ := bd1_e hf
        refine g_iast (pc := 29) d_M_sheet_29 e7 ?_
        refine g_aload_n (pc := 30) 0 d_M_sheet_30 rfl rfl ?_
        obtain ⟨x8, e9, hf⟩ := bd1_e hf
        refine g_get (pc := 31) (ci := 8) (kk := 36) d_M_sheet_31 rfl in_M (by decide) wd_974 (gR_spec e9) ?_
        refine g_iload_n (pc := 34) 1 d_M_sheet_34 rfl rfl ?_
        refine g_iload_n (pc := 35) 3 d_M_sheet_35 rfl rfl ?_
        obtain ⟨h10, e11, hf⟩ := bd1_e hf
        refine g_iast (pc := 36) d_M_sheet_36 e11 ?_
        refine g_iconst (pc := 37) (0 : Int32) d_M_sheet_37 (by decide) ?_
        refine g_istore (pc := 38) [(4, .int (0 : Int32)), (0, .ref a0), (1, .int a1), (2, .int a2), (3, .int a3)] d_M_sheet_38 (Nat.le_of_ble_eq_true rfl) rfl ?_
        refine g_lv [1, 2, 0] rfl ?_
        exact t_M_sheet_40  FU _ _ _ _ _ _  hf
      · replace hf := (if_neg c12).symm.trans hf
        refine g_bipush (pc := 20) ((-14) : Int32) d_M_sheet_20 (by decide) ?_
        obtain ⟨rfl, rfl⟩ := ret2 hf
        exact g_iret (pc := 22) rfl d_M_sheet_22
    · replace hf := (if_neg c13).symm.trans hf
      refine g_lv [] rfl ?_
      exact t_M_sheet_14  _ _ _  hf
def f_M_sheet (a0 : Nat) (a1 : Int32) (a2 : Int32) (a3 : Int32) (h : mH) : Option (Int32 × mH) := f_M_sheet_0 a0 a1 a2 a3 h
theorem c_M_sheet {sc : Nat × (Nat → Int32)} {a0 : Nat} {a1 : Int32} {a2 : Int32} {a3 : Int32} {h : mH} {r : Int32} {h' : mH} (hf : f_M_sheet a0 a1 a2 a3 h = some (r, h')) : MM sc y_M_sheet prog_10_method_87_code 5 (some .int) 2 46 [.ref a0, .int a1, .int a2, .int a3] h (some (.int r)) h' :=
  mm_of_G (by decide) (Nat.le_of_ble_eq_true rfl) (t_M_sheet_0 _ _ _ _ _ _ _ hf)
/-! M lay (III)I -/
set_option maxRecDepth 100000 in
theorem dd_M_lay_0 : (decode prog_10_method_88_code 0 = .ok (.iload_n 1, 1)) ∧ (decode prog_10_method_88_code 1 = .ok (.iconst 0, 1)) ∧ (decode prog_10_method_88_code 2 = .ok (.invokestatic 329, 3)) ∧ (decode prog_10_method_88_code 5 = .ok (.ifCond .ne 5, 3)) ∧ (decode prog_10_method_88_code 8 = .ok (.iconst (-1), 1)) ∧ (decode prog_10_method_88_code 9 = .ok (.ireturn, 1)) ∧ (decode prog_10_method_88_code 10 = .ok (.aload_n 0, 1)) ∧ (decode prog_10_method_88_code 11 = .ok (.getfield 78, 3)) ∧ (decode prog_10_method_88_code 14 = .ok (.iload_n 1, 1)) ∧ (decode prog_10_method_88_code 15 = .ok (.iaload, 1)) ∧ (decode prog_10_method_88_code 16 = .ok (.bipush (-4), 2)) ∧ (decode prog_10_method_88_code 18 = .ok (.if_icmp .ne 6, 3)) ∧ (decode prog_10_method_88_code 21 = .ok (.bipush (-11), 2)) ∧ (decode prog_10_method_88_code 23 = .ok (.ireturn, 1)) ∧ (decode prog_10_method_88_code 24 = .ok (.iload_n 2, 1)) ∧ (decode prog_10_method_88_code 25 = .ok (.i2l, 1)) ∧ (decode prog_10_method_88_code 26 = .ok (.lconst 0, 1)) ∧ (decode prog_10_method_88_code 27 = .ok (.aload_n 0, 1)) ∧ (decode prog_10_method_88_code 28 = .ok (.getfield 81, 3)) ∧ (decode prog_10_method_88_code 31 = .ok (.iload_n 1, 1)) ∧ (decode prog_10_method_88_code 32 = .ok (.iaload, 1)) ∧ (decode prog_10_method_88_code 33 = .ok (.iconst 1, 1)) ∧ (decode prog_10_method_88_code 34 = .ok (.isub, 1)) ∧ (decode prog_10_method_88_code 35 = .ok (.i2l, 1)) := by
  have h : List.drop 0 prog_10_method_88_code.data.toList = 0x1b :: _ := rfl
  refine ⟨zq_k_n 27 h rfl (zq_o_27 _), ?_⟩
  replace h := zq_nx1 (q := 1) h rfl
  refine ⟨zq_k_n 3 h rfl (zq_o_3 _), ?_⟩
  replace h := zq_nx1 (q := 2) h rfl
  refine ⟨zq_k_u2 184 (fun z => .invokestatic z) 329 h rfl (zq_o_184 _) (by decide +kernel), ?_⟩
  replace h := zq_nx3 (q := 5) h rfl
  refine ⟨zq_k_s2 154 (fun z => .ifCond .ne z) 5 h rfl (zq_o_154 _) (by decide +kernel), ?_⟩
  replace h := zq_nx3 (q := 8) h rfl
  refine ⟨zq_k_n 2 h rfl (zq_o_2 _), ?_⟩
  replace h := zq_nx1 (q := 9) h rfl
  refine ⟨zq_k_n 172 h rfl (zq_o_172 _), ?_⟩
  replace h := zq_nx1 (q := 10) h rfl
  refine ⟨zq_k_n 42 h rfl (zq_o_42 _), ?_⟩
  replace h := zq_nx1 (q := 11) h rfl
  refine ⟨zq_k_u2 180 (fun z => .getfield z) 78 h rfl (zq_o_180 _) (by decide +kernel), ?_⟩
  replace h := zq_nx3 (q := 14) h rfl
  refine ⟨zq_k_n 27 h rfl (zq_o_27 _), ?_⟩
  replace h := zq_nx1 (q := 15) h rfl
  refine ⟨zq_k_n 46 h rfl (zq_o_46 _), ?_⟩
  replace h := zq_nx1 (q := 16) h rfl
  refine ⟨zq_k_s1 16 (fun z => .bipush z) (-4) h rfl (zq_o_16 _) (by decide +kernel), ?_⟩
  replace h := zq_nx2 (q := 18) h rfl
  refine ⟨zq_k_s2 160 (fun z => .if_icmp .ne z) 6 h rfl (zq_o_160 _) (by decide +kernel), ?_⟩
  replace h := zq_nx3 (q := 21) h rfl
  refine ⟨zq_k_s1 16 (fun z => .bipush z) (-11) h rfl (zq_o_16 _) (by decide +kernel), ?_⟩
  replace h := zq_nx2 (q := 23) h rfl
  refine ⟨zq_k_n 172 h rfl (zq_o_172 _), ?_⟩
  replace h := zq_nx1 (q := 24) h rfl
  refine ⟨zq_k_n 28 h rfl (zq_o_28 _), ?_⟩
  replace h := zq_nx1 (q := 25) h rfl
  refine ⟨zq_k_n 133 h rfl (zq_o_133 _), ?_⟩
  replace h := zq_nx1 (q := 26) h rfl
  refine ⟨zq_k_n 9 h rfl (zq_o_9 _), ?_⟩
  replace h := zq_nx1 (q := 27) h rfl
  refine ⟨zq_k_n 42 h rfl (zq_o_42 _), ?_⟩
  replace h := zq_nx1 (q := 28) h rfl
  refine ⟨zq_k_u2 180 (fun z => .getfield z) 81 h rfl (zq_o_180 _) (by decide +kernel), ?_⟩
  replace h := zq_nx3 (q := 31) h rfl
  refine ⟨zq_k_n 27 h rfl (zq_o_27 _), ?_⟩
  replace h := zq_nx1 (q := 32) h rfl
  refine ⟨zq_k_n 46 h rfl (zq_o_46 _), ?_⟩
  replace h := zq_nx1 (q := 33) h rfl
  refine ⟨zq_k_n 4 h rfl (zq_o_4 _), ?_⟩
  replace h := zq_nx1 (q := 34) h rfl
  refine ⟨zq_k_n 100 h rfl (zq_o_100 _), ?_⟩
  replace h := zq_nx1 (q := 35) h rfl
  exact zq_k_n 133 h rfl (zq_o_133 _)
theorem d_M_lay_0 : decode prog_10_method_88_code 0 = .ok (.iload_n 1, 1) := dd_M_lay_0.1
theorem d_M_lay_1 : decode prog_10_method_88_code 1 = .ok (.iconst 0, 1) := dd_M_lay_0.2.1
theorem d_M_lay_2 : decode prog_10_method_88_code 2 = .ok (.invokestatic 329, 3) := dd_M_lay_0.2.2.1
theorem d_M_lay_5 : decode prog_10_method_88_code 5 = .ok (.ifCond .ne 5, 3) := dd_M_lay_0.2.2.2.1
theorem d_M_lay_8 : decode prog_10_method_88_code 8 = .ok (.iconst (-1), 1) := dd_M_lay_0.2.2.2.2.1
theorem d_M_lay_9 : decode prog_10_method_88_code 9 = .ok (.ireturn, 1) := dd_M_lay_0.2.2.2.2.2.1
theorem d_M_lay_10 : decode prog_10_method_88_code 10 = .ok (.aload_n 0, 1) := dd_M_lay_0.2.2.2.2.2.2.1
theorem d_M_lay_11 : decode prog_10_method_88_code 11 = .ok (.getfield 78, 3) := dd_M_lay_0.2.2.2.2.2.2.2.1
theorem d_M_lay_14 : decode prog_10_method_88_code 14 = .ok (.iload_n 1, 1) := dd_M_lay_0.2.2.2.2.2.2.2.2.1
theorem d_M_lay_15 : decode prog_10_method_88_code 15 = .ok (.iaload, 1) := dd_M_lay_0.2.2.2.2.2.2.2.2.2.1
theorem d_M_lay_16 : decode prog_10_method_88_code 16 = .ok (.bipush (-4), 2) := dd_M_lay_0.2.2.2.2.2.2.2.2.2.2.1
theorem d_M_lay_18 : decode prog_10_method_88_code 18 = .ok (.if_icmp .ne 6, 3) := dd_M_lay_0.2.2.2.2.2.2.2.2.2.2.2.1
theorem d_M_lay_21 : decode prog_10_method_88_code 21 = .ok (.bipush (-11), 2) := dd_M_lay_0.2.2.2.2.2.2.2.2.2.2.2.2.1
theorem d_M_lay_23 : decode prog_10_method_88_code 23 = .ok (.ireturn, 1) := dd_M_lay_0.2.2.2.2.2.2.2.2.2.2.2.2.2.1
theorem d_M_lay_24 : decode prog_10_method_88_code 24 = .ok (.iload_n 2, 1) := dd_M_lay_0.2.2.2.2.2.2.2.2.2.2.2.2.2.2.1
theorem d_M_lay_25 : decode prog_10_method_88_code 25 = .ok (.i2l, 1) := dd_M_lay_0.2.2.2.2.2.2.2.2.2.2.2.2.2.2.2.1
theorem d_M_lay_26 : decode prog_10_method_88_code 26 = .ok (.lconst 0, 1) := dd_M_lay_0.2.2.2.2.2.2.2.2.2.2.2.2.2.2.2.2.1
theorem d_M_lay_27 : decode prog_10_method_88_code 27 = .ok (.aload_n 0, 1) := dd_M_lay_0.2.2.2.2.2.2.2.2.2.2.2.2.2.2.2.2.2.1
theorem d_M_lay_28 : decode prog_10_method_88_code 28 = .ok (.getfield 81, 3) := dd_M_lay_0.2.2.2.2.2.2.2.2.2.2.2.2.2.2.2.2.2.2.1
theorem d_M_lay_31 : decode prog_10_method_88_code 31 = .ok (.iload_n 1, 1) := dd_M_lay_0.2.2.2.2.2.2.2.2.2.2.2.2.2.2.2.2.2.2.2.1
theorem d_M_lay_32 : decode prog_10_method_88_code 32 = .ok (.iaload, 1) := dd_M_lay_0.2.2.2.2.2.2.2.2.2.2.2.2.2.2.2.2.2.2.2.2.1
theorem d_M_lay_33 : decode prog_10_method_88_code 33 = .ok (.iconst 1, 1) := dd_M_lay_0.2.2.2.2.2.2.2.2.2.2.2.2.2.2.2.2.2.2.2.2.2.1
theorem d_M_lay_34 : decode prog_10_method_88_code 34 = .ok (.isub, 1) := dd_M_lay_0.2.2.2.2.2.2.2.2.2.2.2.2.2.2.2.2.2.2.2.2.2.2.1
theorem d_M_lay_35 : decode prog_10_method_88_code 35 = .ok (.i2l, 1) := dd_M_lay_0.2.2.2.2.2.2.2.2.2.2.2.2.2.2.2.2.2.2.2.2.2.2.2
set_option maxRecDepth 100000 in
theorem dd_M_lay_36 : (decode prog_10_method_88_code 36 = .ok (.invokestatic 114, 3)) ∧ (decode prog_10_method_88_code 39 = .ok (.ifCond .ne 6, 3)) ∧ (decode prog_10_method_88_code 42 = .ok (.bipush (-12), 2)) ∧ (decode prog_10_method_88_code 44 = .ok (.ireturn, 1)) ∧ (decode prog_10_method_88_code 45 = .ok (.aload_n 0, 1)) ∧ (decode prog_10_method_88_code 46 = .ok (.getfield 84, 3)) ∧ (decode prog_10_method_88_code 49 = .ok (.bipush 40, 2)) ∧ (decode prog_10_method_88_code 51 = .ok (.iload_n 1, 1)) ∧ (decode prog_10_method_88_code 52 = .ok (.imul, 1)) ∧ (decode prog_10_method_88_code 53 = .ok (.iload_n 2, 1)) ∧ (decode prog_10_method_88_code 54 = .ok (.iadd, 1)) ∧ (decode prog_10_method_88_code 55 = .ok (.aload_n 0, 1)) ∧ (decode prog_10_method_88_code 56 = .ok (.getfield 78, 3)) ∧ (decode prog_10_method_88_code 59 = .ok (.iload_n 1, 1)) ∧ (decode prog_10_method_88_code 60 = .ok (.iaload, 1)) ∧ (decode prog_10_method_88_code 61 = .ok (.ifCond .ne 8, 3)) ∧ (decode prog_10_method_88_code 64 = .ok (.iload_n 3, 1)) ∧ (decode prog_10_method_88_code 65 = .ok (.i2b, 1)) ∧ (decode prog_10_method_88_code 66 = .ok (.goto 19, 3)) ∧ (decode prog_10_method_88_code 69 = .ok (.aload_n 0, 1)) ∧ (decode prog_10_method_88_code 70 = .ok (.getfield 78, 3)) ∧ (decode prog_10_method_88_code 73 = .ok (.iload_n 1, 1)) ∧ (decode prog_10_method_88_code 74 = .ok (.iaload, 1)) ∧ (decode prog_10_method_88_code 75 = .ok (.iconst 1, 1)) := by
  have h : List.drop 36 prog_10_method_88_code.data.toList = 0xb8 :: _ := rfl
  refine ⟨zq_k_u2 184 (fun z => .invokestatic z) 114 h rfl (zq_o_184 _) (by decide +kernel), ?_⟩
  replace h := zq_nx3 (q := 39) h rfl
  refine ⟨zq_k_s2 154 (fun z => .ifCond .ne z) 6 h rfl (zq_o_154 _) (by decide +kernel), ?_⟩
  replace h := zq_nx3 (q := 42) h rfl
  refine ⟨zq_k_s1 16 (fun z => .bipush z) (-12) h rfl (zq_o_16 _) (by decide +kernel), ?_⟩
  replace h := zq_nx2 (q := 44) h rfl
  refine ⟨zq_k_n 172 h rfl (zq_o_172 _), ?_⟩
  replace h := zq_nx1 (q := 45) h rfl
  refine ⟨zq_k_n 42 h rfl (zq_o_42 _), ?_⟩
  replace h := zq_nx1 (q := 46) h rfl
  refine ⟨zq_k_u2 180 (fun z => .getfield z) 84 h rfl (zq_o_180 _) (by decide +kernel), ?_⟩
  replace h := zq_nx3 (q := 49) h rfl
  refine ⟨zq_k_s1 16 (fun z => .bipush z) 40 h rfl (zq_o_16 _) (by decide +kernel), ?_⟩
  replace h := zq_nx2 (q := 51) h rfl
  refine ⟨zq_k_n 27 h rfl (zq_o_27 _), ?_⟩
  replace h := zq_nx1 (q := 52) h rfl
  refine ⟨zq_k_n 104 h rfl (zq_o_104 _), ?_⟩
  replace h := zq_nx1 (q := 53) h rfl
  refine ⟨zq_k_n 28 h rfl (zq_o_28 _), ?_⟩
  replace h := zq_nx1 (q := 54) h rfl
  refine ⟨zq_k_n 96 h rfl (zq_o_96 _), ?_⟩
  replace h := zq_nx1 (q := 55) h rfl
  refine ⟨zq_k_n 42 h rfl (zq_o_42 _), ?_⟩
  replace h := zq_nx1 (q := 56) h rfl
  refine ⟨zq_k_u2 180 (fun z => .getfield z) 78 h rfl (zq_o_180 _) (by decide +kernel), ?_⟩
  replace h := zq_nx3 (q := 59) h rfl
  refine ⟨zq_k_n 27 h rfl (zq_o_27 _), ?_⟩
  replace h := zq_nx1 (q := 60) h rfl
  refine ⟨zq_k_n 46 h rfl (zq_o_46 _), ?_⟩
  replace h := zq_nx1 (q := 61) h rfl
  refine ⟨zq_k_s2 154 (fun z => .ifCond .ne z) 8 h rfl (zq_o_154 _) (by decide +kernel), ?_⟩
  replace h := zq_nx3 (q := 64) h rfl
  refine ⟨zq_k_n 29 h rfl (zq_o_29 _), ?_⟩
  replace h := zq_nx1 (q := 65) h rfl
  refine ⟨zq_k_n 145 h rfl (zq_o_145 _), ?_⟩
  replace h := zq_nx1 (q := 66) h rfl
  refine ⟨zq_k_s2 167 (fun z => .goto z) 19 h rfl (zq_o_167 _) (by decide +kernel), ?_⟩
  replace h := zq_nx3 (q := 69) h rfl
  refine ⟨zq_k_n 42 h rfl (zq_o_42 _), ?_⟩
  replace h := zq_nx1 (q := 70) h rfl
  refine ⟨zq_k_u2 180 (fun z => .getfield z) 78 h rfl (zq_o_180 _) (by decide +kernel), ?_⟩
  replace h := zq_nx3 (q := 73) h rfl
  refine ⟨zq_k_n 27 h rfl (zq_o_27 _), ?_⟩
  replace h := zq_nx1 (q := 74) h rfl
  refine ⟨zq_k_n 46 h rfl (zq_o_46 _), ?_⟩
  replace h := zq_nx1 (q := 75) h rfl
  exact zq_k_n 4 h rfl (zq_o_4 _)
theorem d_M_lay_36 : decode prog_10_method_88_code 36 = .ok (.invokestatic 114, 3) := dd_M_lay_36.1
theorem d_M_lay_39 : decode prog_10_method_88_code 39 = .ok (.ifCond .ne 6, 3) := dd_M_lay_36.2.1
theorem d_M_lay_42 : decode prog_10_method_88_code 42 = .ok (.bipush (-12), 2) := dd_M_lay_36.2.2.1
theorem d_M_lay_44 : decode prog_10_method_88_code 44 = .ok (.ireturn, 1) := dd_M_lay_36.2.2.2.1
theorem d_M_lay_45 : decode prog_10_method_88_code 45 = .ok (.aload_n 0, 1) := dd_M_lay_36.2.2.2.2.1
theorem d_M_lay_46 : decode prog_10_method_88_code 46 = .ok (.getfield 84, 3) := dd_M_lay_36.2.2.2.2.2.1
theorem d_M_lay_49 : decode prog_10_method_88_code 49 = .ok (.bipush 40, 2) := dd_M_lay_36.2.2.2.2.2.2.1
theorem d_M_lay_51 : decode prog_10_method_88_code 51 = .ok (.iload_n 1, 1) := dd_M_lay_36.2.2.2.2.2.2.2.1
theorem d_M_lay_52 : decode prog_10_method_88_code 52 = .ok (.imul, 1) := dd_M_lay_36.2.2.2.2.2.2.2.2.1
theorem d_M_lay_53 : decode prog_10_method_88_code 53 = .ok (.iload_n 2, 1) := dd_M_lay_36.2.2.2.2.2.2.2.2.2.1
theorem d_M_lay_54 : decode prog_10_method_88_code 54 = .ok (.iadd, 1) := dd_M_lay_36.2.2.2.2.2.2.2.2.2.2.1
theorem d_M_lay_55 : decode prog_10_method_88_code 55 = .ok (.aload_n 0, 1) := dd_M_lay_36.2.2.2.2.2.2.2.2.2.2.2.1
theorem d_M_lay_56 : decode prog_10_method_88_code 56 = .ok (.getfield 78, 3) := dd_M_lay_36.2.2.2.2.2.2.2.2.2.2.2.2.1
theorem d_M_lay_59 : decode prog_10_method_88_code 59 = .ok (.iload_n 1, 1) := dd_M_lay_36.2.2.2.2.2.2.2.2.2.2.2.2.2.1
theorem d_M_lay_60 : decode prog_10_method_88_code 60 = .ok (.iaload, 1) := dd_M_lay_36.2.2.2.2.2.2.2.2.2.2.2.2.2.2.1
theorem d_M_lay_61 : decode prog_10_method_88_code 61 = .ok (.ifCond .ne 8, 3) := dd_M_lay_36.2.2.2.2.2.2.2.2.2.2.2.2.2.2.2.1
theorem d_M_lay_64 : decode prog_10_method_88_code 64 = .ok (.iload_n 3, 1) := dd_M_lay_36.2.2.2.2.2.2.2.2.2.2.2.2.2.2.2.2.1
theorem d_M_lay_65 : decode prog_10_method_88_code 65 = .ok (.i2b, 1) := dd_M_lay_36.2.2.2.2.2.2.2.2.2.2.2.2.2.2.2.2.2.1
theorem d_M_lay_66 : decode prog_10_method_88_code 66 = .ok (.goto 19, 3) := dd_M_lay_36.2.2.2.2.2.2.2.2.2.2.2.2.2.2.2.2.2.2.1
theorem d_M_lay_69 : decode prog_10_method_88_code 69 = .ok (.aload_n 0, 1) := dd_M_lay_36.2.2.2.2.2.2.2.2.2.2.2.2.2.2.2.2.2.2.2.1
theorem d_M_lay_70 : decode prog_10_method_88_code 70 = .ok (.getfield 78, 3) := dd_M_lay_36.2.2.2.2.2.2.2.2.2.2.2.2.2.2.2.2.2.2.2.2.1
theorem d_M_lay_73 : decode prog_10_method_88_code 73 = .ok (.iload_n 1, 1) := dd_M_lay_36.2.2.2.2.2.2.2.2.2.2.2.2.2.2.2.2.2.2.2.2.2.1
theorem d_M_lay_74 : decode prog_10_method_88_code 74 = .ok (.iaload, 1) := dd_M_lay_36.2.2.2.2.2.2.2.2.2.2.2.2.2.2.2.2.2.2.2.2.2.2.1
theorem d_M_lay_75 : decode prog_10_method_88_code 75 = .ok (.iconst 1, 1) := dd_M_lay_36.2.2.2.2.2.2.2.2.2.2.2.2.2.2.2.2.2.2.2.2.2.2.2
set_option maxRecDepth 100000 in
theorem dd_M_lay_76 : (decode prog_10_method_88_code 76 = .ok (.if_icmp .ne 8, 3)) ∧ (decode prog_10_method_88_code 79 = .ok (.iload_n 3, 1)) ∧ (decode prog_10_method_88_code 80 = .ok (.i2s, 1)) ∧ (decode prog_10_method_88_code 81 = .ok (.goto 4, 3)) ∧ (decode prog_10_method_88_code 84 = .ok (.iload_n 3, 1)) ∧ (decode prog_10_method_88_code 85 = .ok (.iastore, 1)) ∧ (decode prog_10_method_88_code 86 = .ok (.iconst 1, 1)) ∧ (decode prog_10_method_88_code 87 = .ok (.ireturn, 1)) := by
  have h : List.drop 76 prog_10_method_88_code.data.toList = 0xa0 :: _ := rfl
  refine ⟨zq_k_s2 160 (fun z => .if_icmp .ne z) 8 h rfl (zq_o_160 _) (by decide +kernel), ?_⟩
  replace h := zq_nx3 (q := 79) h rfl
  refine ⟨zq_k_n 29 h rfl (zq_o_29 _), ?_⟩
  replace h := zq_nx1 (q := 80) h rfl
  refine ⟨zq_k_n 147 h rfl (zq_o_147 _), ?_⟩
  replace h := zq_nx1 (q := 81) h rfl
  refine ⟨zq_k_s2 167 (fun z => .goto z) 4 h rfl (zq_o_167 _) (by decide +kernel), ?_⟩
  replace h := zq_nx3 (q := 84) h rfl
  refine ⟨zq_k_n 29 h rfl (zq_o_29 _), ?_⟩
  replace h := zq_nx1 (q := 85) h rfl
  refine ⟨zq_k_n 79 h rfl (zq_o_79 _), ?_⟩
  replace h := zq_nx1 (q := 86) h rfl
  refine ⟨zq_k_n 4 h rfl (zq_o_4 _), ?_⟩
  replace h := zq_nx1 (q := 87) h rfl
  exact zq_k_n 172 h rfl (zq_o_172 _)
theorem d_M_lay_76 : decode prog_10_method_88_code 76 = .ok (.if_icmp .ne 8, 3) := dd_M_lay_76.1
theorem d_M_lay_79 : decode prog_10_method_88_code 79 = .ok (.iload_n 3, 1) := dd_M_lay_76.2.1
theorem d_M_lay_80 : decode prog_10_method_88_code 80 = .ok (.i2s, 1) := dd_M_lay_76.2.2.1
theorem d_M_lay_81 : decode prog_10_method_88_code 81 = .ok (.goto 4, 3) := dd_M_lay_76.2.2.2.1
theorem d_M_lay_84 : decode prog_10_method_88_code 84 = .ok (.iload_n 3, 1) := dd_M_lay_76.2.2.2.2.1
theorem d_M_lay_85 : decode prog_10_method_88_code 85 = .ok (.iastore, 1) := dd_M_lay_76.2.2.2.2.2.1
theorem d_M_lay_86 : decode prog_10_method_88_code 86 = .ok (.iconst 1, 1) := dd_M_lay_76.2.2.2.2.2.2.1
theorem d_M_lay_87 : decode prog_10_method_88_code 87 = .ok (.ireturn, 1) := dd_M_lay_76.2.2.2.2.2.2.2
def f_M_lay_85  (s0 : Nat) (s1 : Int32) (s2 : Int32) (h : mH) : Option (Int32 × mH) :=
  bd1 (sI h 0 s0 s1 s2) fun h30 =>
  some ((1 : Int32), h30)
set_option maxRecDepth 20000 in
theorem t_M_lay_85 {sc : Nat × (Nat → Int32)}  (s0 : Nat) (s1 : Int32) (s2 : Int32) (h : mH) (r : Int32) (h' : mH) (hf : f_M_lay_85  s0 s1 s2 h = some (r, h')) : G sc y_M_lay prog_10_method_88_code 4 (some .int) 2 46 85 [] [.int s2, .int s1, .ref s0] h (some (.int r)) h' := by
  unfold f_M_lay_85 at hf
  obtain ⟨h30, e31, hf⟩ := bd1_e hf
  refine g_iast (pc := 85) d_M_lay_85 e31 ?_
  refine g_iconst (pc := 86) (1 : Int32) d_M_lay_86 (by decide) ?_
  obtain ⟨rfl, rfl⟩ := ret2 hf
  exact g_iret (pc := 87) rfl d_M_lay_87
def f_M_lay_0  (a0 : Nat) (a1 : Int32) (a2 : Int32) (a3 : Int32) (h : mH) : Option (Int32 × mH) :=
  bd2 (f_M_isSheet a1 (0 : Int32) h) fun x3 h1 =>
  if x3 = 0 then
    some (((-1) : Int32), h1)
  else
    bd1 (gR h1 a0 8 35) fun x4 =>
    bd1 (aI h1 0 x4 a1) fun x6 =>
    if x6 = ((-4) : Int32) then
      some (((-11) : Int32), h1)
    else
      bd1 (gR h1 a0 8 36) fun x8 =>
      bd1 (aI h1 0 x8 a1) fun x10 =>
      bd2 (f_M_in a2.toInt64 (0 : Int64) ((x10 - (1 : Int32)).toInt64) h1) fun x14 h12 =>
      if x14 = 0 then
        some (((-12) : Int32), h12)
      else
        bd1 (gR h12 a0 8 37) fun x15 =>
        bd1 (gR h12 a0 8 35) fun x17 =>
        bd1 (aI h12 0 x17 a1) fun x19 =>
        if x19 = 0 then
          f_M_lay_85  x15 (((40 : Int32) * a1) + a2) a3.toInt8.toInt32 h12
        else
          bd1 (gR h12 a0 8 35) fun x21 =>
          bd1 (aI h12 0 x21 a1) fun x23 =>
          if x23 = (1 : Int32) then
            f_M_lay_85  x15 (((40 : Int32) * a1) + a2) a3.toInt16.toInt32 h12
          else
            f_M_lay_85  x15 (((40 : Int32) * a1) + a2) a3 h12
set_option maxRecDepth 20000 in
theorem t_M_lay_0 {sc : Nat × (Nat → Int32)}  (a0 : Nat) (a1 : Int32) (a2 : Int32) (a3 : Int32) (h : mH) (r : Int32) (h' : mH) (hf : f_M_lay_0  a0 a1 a2 a3 h = some (r, h')) : G sc y_M_lay prog_10_method_88_code 4 (some .int) 2 46 0 [(0, .ref a0), (1, .int a1), (2, .int a2), (3, .int a3)] [] h (some (.int r)) h' := by
  unfold f_M_lay_0 at hf
  refine g_iload_n (pc := 0) 1 d_M_lay_0 rfl rfl ?_
  refine g_iconst (pc := 1) (0 : Int32) d_M_lay_1 (by decide) ?_
  obtain ⟨x3, h1, e2, hf⟩ := bd2_e hf
  refine g_callS (pc := 2) [.int a1, .int (0 : Int32)] (site_of si_M_isSheet (by decide) (by decide)) wd_1396 wd_1397 d_M_lay_2 (Nat.le_of_ble_eq_true rfl) (fun z => absurd z (by decide)) (fun z => absurd z (by decide)) (fun z => absurd z (by decide)) (c_M_isSheet e2) rfl ?_
  refine g_st [.int x3] rfl ?_
  refine g_ifne (pc := 5) 10 d_M_lay_5 (by decide) (fun c29 => ?_) (fun c29 => ?_)
  · replace hf := (if_neg c29).symm.trans hf
    refine g_aload_n (pc := 10) 0 d_M_lay_10 rfl rfl ?_
    obtain ⟨x4, e5, hf⟩ := bd1_e hf
    refine g_get (pc := 11) (ci := 8) (kk := 35) d_M_lay_11 rfl in_M (by decide) wd_973 (gR_spec e5) ?_
    refine g_iload_n (pc := 14) 1 d_M_lay_14 rfl rfl ?_
    obtain ⟨x6, e7, hf⟩ := bd1_e hf
    refine g_iald (pc := 15) d_M_lay_15 e7 ?_
    refine g_bipush (pc := 16) ((-4) : Int32) d_M_lay_16 (by decide) ?_
    refine g_icmpne (pc := 18) 24 d_M_lay_18 (by decide) (fun c28 => ?_) (fun c28 => ?_)
    · replace hf := (if_neg c28).symm.trans hf
      refine g_iload_n (pc := 24) 2 d_M_lay_24 rfl rfl ?_
      refine g_i2l (pc := 25) d_M_lay_25 ?_
      refine g_lconst (pc := 26) (0 : Int64) d_M_lay_26 (by decide) ?_
      refine g_aload_n (pc := 27) 0 d_M_lay_27 rfl rfl ?_
      obtain ⟨x8, e9, hf⟩ := bd1_e hf
      refine g_get (pc := 28) (ci := 8) (kk := 36) d_M_lay_28 rfl in_M (by decide) wd_974 (gR_spec e9) ?_
      refine g_iload_n (pc := 31) 1 d_M_lay_31 rfl rfl ?_
      obtain ⟨x10, e11, hf⟩ := bd1_e hf
      refine g_iald (pc := 32) d_M_lay_32 e11 ?_
      refine g_iconst (pc := 33) (1 : Int32) d_M_lay_33 (by decide) ?_
      refine g_isub (pc := 34) d_M_lay_34 ?_
      refine g_i2l (pc := 35) d_M_lay_35 ?_
      obtain ⟨x14, h12, e13, hf⟩ := bd2_e hf
      refine g_callS (pc := 36) [.long a2.toInt64, .long (0 : Int64), .long ((x10 - (1 : Int32)).toInt64)] (site_of si_M_in (by decide) (by decide)) wd_1061 wd_1062 d_M_lay_36 (Nat.le_of_ble_eq_true rfl) (fun z => absurd z (by decide)) (fun z => absurd z (by decide)) (fun z => absurd z (by decide)) (c_M_in e13) rfl ?_
      refine g_st [.int x14] rfl ?_
      refine g_ifne (pc := 39) 45 d_M_lay_39 (by decide) (fun c27 => ?_) (fun c27 => ?_)
      · replace hf := (if_neg c27).symm.trans hf
        refine g_aload_n (pc := 45) 0 d_M_lay_45 rfl rfl ?_
        obtain ⟨x15, e16, hf⟩ := bd1_e hf
        refine g_get (pc := 46) (ci := 8) (kk := 37) d_M_lay_46 rfl in_M (by decide) wd_975 (gR_spec e16) ?_
        refine g_bipush (pc := 49) (40 : Int32) d_M_lay_49 (by decide) ?_
        refine g_iload_n (pc := 51) 1 d_M_lay_51 rfl rfl ?_
        refine g_imul (pc := 52) d_M_lay_52 ?_
        refine g_iload_n (pc := 53) 2 d_M_lay_53 rfl rfl ?_
        refine g_iadd (pc := 54) d_M_lay_54 ?_
        refine g_aload_n (pc := 55) 0 d_M_lay_55 rfl rfl ?_
        obtain ⟨x17, e18, hf⟩ := bd1_e hf
        refine g_get (pc := 56) (ci := 8) (kk := 35) d_M_lay_56 rfl in_M (by decide) wd_973 (gR_spec e18) ?_
        refine g_iload_n (pc := 59) 1 d_M_lay_59 rfl rfl ?_
        obtain ⟨x19, e20, hf⟩ := bd1_e hf
        refine g_iald (pc := 60) d_M_lay_60 e20 ?_
        refine g_ifne (pc := 61) 69 d_M_lay_61 (by decide) (fun c26 => ?_) (fun c26 => ?_)
        · replace hf := (if_neg c26).symm.trans hf
          refine g_aload_n (pc := 69) 0 d_M_lay_69 rfl rfl ?_
          obtain ⟨x21, e22, hf⟩ := bd1_e hf
          refine g_get (pc := 70) (ci := 8) (kk := 35) d_M_lay_70 rfl in_M (by decide) wd_973 (gR_spec e22) ?_
          refine g_iload_n (pc := 73) 1 d_M_lay_73 rfl rfl ?_
          obtain ⟨x23, e24, hf⟩ := bd1_e hf
          refine g_iald (pc := 74) d_M_lay_74 e24 ?_
          refine g_iconst (pc := 75) (1 : Int32) d_M_lay_75 (by decide) ?_
          refine g_icmpne (pc := 76) 84 d_M_lay_76 (by decide) (fun c25 => ?_) (fun c25 => ?_)
          · replace hf := (if_neg c25).symm.trans hf
            refine g_iload_n (pc := 84) 3 d_M_lay_84 rfl rfl ?_
            refine g_lv [] rfl ?_
            exact t_M_lay_85  _ _ _ _ _ _  hf
          · replace hf := (if_pos c25).symm.trans hf
            refine g_iload_n (pc := 79) 3 d_M_lay_79 rfl rfl ?_
            refine g_i2s (pc := 80) d_M_lay_80 ?_
            refine g_goto (pc := 81) 85 d_M_lay_81 (by decide) ?_
            refine g_lv [] rfl ?_
            exact t_M_lay_85  _ _ _ _ _ _  hf
        · replace hf := (if_pos c26).symm.trans hf
          refine g_iload_n (pc := 64) 3 d_M_lay_64 rfl rfl ?_
          refine g_i2b (pc := 65) d_M_lay_65 ?_
          refine g_goto (pc := 66) 85 d_M_lay_66 (by decide) ?_
          refine g_lv [] rfl ?_
          exact t_M_lay_85  _ _ _ _ _ _  hf
      · replace hf := (if_pos c27).symm.trans hf
        refine g_bipush (pc := 42) ((-12) : Int32) d_M_lay_42 (by decide) ?_
        obtain ⟨rfl, rfl⟩ := ret2 hf
        exact g_iret (pc := 44) rfl d_M_lay_44
    · replace hf := (if_pos c28).symm.trans hf
      refine g_bipush (pc := 21) ((-11) : Int32) d_M_lay_21 (by decide) ?_
      obtain ⟨rfl, rfl⟩ := ret2 hf
      exact g_iret (pc := 23) rfl d_M_lay_23
  · replace hf := (if_pos c29).symm.trans hf
    refine g_iconst (pc := 8) ((-1) : Int32) d_M_lay_8 (by decide) ?_
    obtain ⟨rfl, rfl⟩ := ret2 hf
    exact g_iret (pc := 9) rfl d_M_lay_9
def f_M_lay (a0 : Nat) (a1 : Int32) (a2 : Int32) (a3 : Int32) (h : mH) : Option (Int32 × mH) := f_M_lay_0 a0 a1 a2 a3 h
theorem c_M_lay {sc : Nat × (Nat → Int32)} {a0 : Nat} {a1 : Int32} {a2 : Int32} {a3 : Int32} {h : mH} {r : Int32} {h' : mH} (hf : f_M_lay a0 a1 a2 a3 h = some (r, h')) : MM sc y_M_lay prog_10_method_88_code 4 (some .int) 2 46 [.ref a0, .int a1, .int a2, .int a3] h (some (.int r)) h' :=
  mm_of_G (by decide) (Nat.le_of_ble_eq_true rfl) (t_M_lay_0 _ _ _ _ _ _ _ hf)
/-! M read (IIII)I -/
set_option maxRecDepth 100000 in
theorem dd_M_read_0 : (decode prog_10_method_89_code 0 = .ok (.iload_n 1, 1)) ∧ (decode prog_10_method_89_code 1 = .ok (.iload_n 2, 1)) ∧ (decode prog_10_method_89_code 2 = .ok (.invokestatic 329, 3)) ∧ (decode prog_10_method_89_code 5 = .ok (.ifCond .eq 16, 3)) ∧ (decode prog_10_method_89_code 8 = .ok (.iload 4, 2)) ∧ (decode prog_10_method_89_code 10 = .ok (.i2l, 1)) ∧ (decode prog_10_method_89_code 11 = .ok (.lconst 0, 1)) ∧ (decode prog_10_method_89_code 12 = .ok (.ldc2_w 292, 3)) ∧ (decode prog_10_method_89_code 15 = .ok (.invokestatic 114, 3)) ∧ (decode prog_10_method_89_code 18 = .ok (.ifCond .ne 5, 3)) ∧ (decode prog_10_method_89_code 21 = .ok (.iconst (-1), 1)) ∧ (decode prog_10_method_89_code 22 = .ok (.ireturn, 1)) ∧ (decode prog_10_method_89_code 23 = .ok (.aload_n 0, 1)) ∧ (decode prog_10_method_89_code 24 = .ok (.invokevirtual 275, 3)) ∧ (decode prog_10_method_89_code 27 = .ok (.iconst 0, 1)) ∧ (decode prog_10_method_89_code 28 = .ok (.istore 5, 2)) ∧ (decode prog_10_method_89_code 30 = .ok (.iconst 0, 1)) ∧ (decode prog_10_method_89_code 31 = .ok (.istore 6, 2)) ∧ (decode prog_10_method_89_code 33 = .ok (.iconst 0, 1)) ∧ (decode prog_10_method_89_code 34 = .ok (.istore 7, 2)) ∧ (decode prog_10_method_89_code 36 = .ok (.iload 7, 2)) ∧ (decode prog_10_method_89_code 38 = .ok (.iload 4, 2)) ∧ (decode prog_10_method_89_code 40 = .ok (.if_icmp .ge 158, 3)) ∧ (decode prog_10_method_89_code 43 = .ok (.iload 5, 2)) := by
  have h : List.drop 0 prog_10_method_89_code.data.toList = 0x1b :: _ := rfl
  refine ⟨zq_k_n 27 h rfl (zq_o_27 _), ?_⟩
  replace h := zq_nx1 (q := 1) h rfl
  refine ⟨zq_k_n 28 h rfl (zq_o_28 _), ?_⟩
  replace h := zq_nx1 (q := 2) h rfl
  refine ⟨zq_k_u2 184 (fun z => .invokestatic z) 329 h rfl (zq_o_184 _) (by decide +kernel), ?_⟩
  replace h := zq_nx3 (q := 5) h rfl
  refine ⟨zq_k_s2 153 (fun z => .ifCond .eq z) 16 h rfl (zq_o_153 _) (by decide +kernel), ?_⟩
  replace h := zq_nx3 (q := 8) h rfl
  refine ⟨zq_k_u1 21 (fun z => .iload z) 4 h rfl (zq_o_21 _) (by decide +kernel), ?_⟩
  replace h := zq_nx2 (q := 10) h rfl
  refine ⟨zq_k_n 133 h rfl (zq_o_133 _), ?_⟩
  replace h := zq_nx1 (q := 11) h rfl
  refine ⟨zq_k_n 9 h rfl (zq_o_9 _), ?_⟩
  replace h := zq_nx1 (q := 12) h rfl
  refine ⟨zq_k_u2 20 (fun z => .ldc2_w z) 292 h rfl (zq_o_20 _) (by decide +kernel), ?_⟩
  replace h := zq_nx3 (q := 15) h rfl
  refine ⟨zq_k_u2 184 (fun z => .invokestatic z) 114 h rfl (zq_o_184 _) (by decide +kernel), ?_⟩
  replace h := zq_nx3 (q := 18) h rfl
  refine ⟨zq_k_s2 154 (fun z => .ifCond .ne z) 5 h rfl (zq_o_154 _) (by decide +kernel), ?_⟩
  replace h := zq_nx3 (q := 21) h rfl
  refine ⟨zq_k_n 2 h rfl (zq_o_2 _), ?_⟩
  replace h := zq_nx1 (q := 22) h rfl
  refine ⟨zq_k_n 172 h rfl (zq_o_172 _), ?_⟩
  replace h := zq_nx1 (q := 23) h rfl
  refine ⟨zq_k_n 42 h rfl (zq_o_42 _), ?_⟩
  replace h := zq_nx1 (q := 24) h rfl
  refine ⟨zq_k_u2 182 (fun z => .invokevirtual z) 275 h rfl (zq_o_182 _) (by decide +kernel), ?_⟩
  replace h := zq_nx3 (q := 27) h rfl
  refine ⟨zq_k_n 3 h rfl (zq_o_3 _), ?_⟩
  replace h := zq_nx1 (q := 28) h rfl
  refine ⟨zq_k_u1 54 (fun z => .istore z) 5 h rfl (zq_o_54 _) (by decide +kernel), ?_⟩
  replace h := zq_nx2 (q := 30) h rfl
  refine ⟨zq_k_n 3 h rfl (zq_o_3 _), ?_⟩
  replace h := zq_nx1 (q := 31) h rfl
  refine ⟨zq_k_u1 54 (fun z => .istore z) 6 h rfl (zq_o_54 _) (by decide +kernel), ?_⟩
  replace h := zq_nx2 (q := 33) h rfl
  refine ⟨zq_k_n 3 h rfl (zq_o_3 _), ?_⟩
  replace h := zq_nx1 (q := 34) h rfl
  refine ⟨zq_k_u1 54 (fun z => .istore z) 7 h rfl (zq_o_54 _) (by decide +kernel), ?_⟩
  replace h := zq_nx2 (q := 36) h rfl
  refine ⟨zq_k_u1 21 (fun z => .iload z) 7 h rfl (zq_o_21 _) (by decide +kernel), ?_⟩
  replace h := zq_nx2 (q := 38) h rfl
  refine ⟨zq_k_u1 21 (fun z => .iload z) 4 h rfl (zq_o_21 _) (by decide +kernel), ?_⟩
  replace h := zq_nx2 (q := 40) h rfl
  refine ⟨zq_k_s2 162 (fun z => .if_icmp .ge z) 158 h rfl (zq_o_162 _) (by decide +kernel), ?_⟩
  replace h := zq_nx3 (q := 43) h rfl
  exact zq_k_u1 21 (fun z => .iload z) 5 h rfl (zq_o_21 _) (by decide +kernel)
theorem d_M_read_0 : decode prog_10_method_89_code 0 = .ok (.iload_n 1, 1) := dd_M_read_0.1
theorem d_M_read_1 : decode prog_10_method_89_code 1 = .ok (.iload_n 2, 1) := dd_M_read_0.2.1
theorem d_M_read_2 : decode prog_10_method_89_code 2 = .ok (.invokestatic 329, 3) := dd_M_read_0.2.2.1
theorem d_M_read_5 : decode prog_10_method_89_code 5 = .ok (.ifCond .eq 16, 3) := dd_M_read_0.2.2.2.1
theorem d_M_read_8 : decode prog_10_method_89_code 8 = .ok (.iload 4, 2) := dd_M_read_0.2.2.2.2.1
theorem d_M_read_10 : decode prog_10_method_89_code 10 = .ok (.i2l, 1) := dd_M_read_0.2.2.2.2.2.1
theorem d_M_read_11 : decode prog_10_method_89_code 11 = .ok (.lconst 0, 1) := dd_M_read_0.2.2.2.2.2.2.1
theorem d_M_read_12 : decode prog_10_method_89_code 12 = .ok (.ldc2_w 292, 3) := dd_M_read_0.2.2.2.2.2.2.2.1
theorem d_M_read_15 : decode prog_10_method_89_code 15 = .ok (.invokestatic 114, 3) := dd_M_read_0.2.2.2.2.2.2.2.2.1
theorem d_M_read_18 : decode prog_10_method_89_code 18 = .ok (.ifCond .ne 5, 3) := dd_M_read_0.2.2.2.2.2.2.2.2.2.1
theorem d_M_read_21 : decode prog_10_method_89_code 21 = .ok (.iconst (-1), 1) := dd_M_read_0.2.2.2.2.2.2.2.2.2.2.1
theorem d_M_read_22 : decode prog_10_method_89_code 22 = .ok (.ireturn, 1) := dd_M_read_0.2.2.2.2.2.2.2.2.2.2.2.1
theorem d_M_read_23 : decode prog_10_method_89_code 23 = .ok (.aload_n 0, 1) := dd_M_read_0.2.2.2.2.2.2.2.2.2.2.2.2.1
theorem d_M_read_24 : decode prog_10_method_89_code 24 = .ok (.invokevirtual 275, 3) := dd_M_read_0.2.2.2.2.2.2.2.2.2.2.2.2.2.1
theorem d_M_read_27 : decode prog_10_method_89_code 27 = .ok (.iconst 0, 1) := dd_M_read_0.2.2.2.2.2.2.2.2.2.2.2.2.2.2.1
theorem d_M_read_28 : decode prog_10_method_89_code 28 = .ok (.istore 5, 2) := dd_M_read_0.2.2.2.2.2.2.2.2.2.2.2.2.2.2.2.1
theorem d_M_read_30 : decode prog_10_method_89_code 30 = .ok (.iconst 0, 1) := dd_M_read_0.2.2.2.2.2.2.2.2.2.2.2.2.2.2.2.2.1
theorem d_M_read_31 : decode prog_10_method_89_code 31 = .ok (.istore 6, 2) := dd_M_read_0.2.2.2.2.2.2.2.2.2.2.2.2.2.2.2.2.2.1
theorem d_M_read_33 : decode prog_10_method_89_code 33 = .ok (.iconst 0, 1) := dd_M_read_0.2.2.2.2.2.2.2.2.2.2.2.2.2.2.2.2.2.2.1
theorem d_M_read_34 : decode prog_10_method_89_code 34 = .ok (.istore 7, 2) := dd_M_read_0.2.2.2.2.2.2.2.2.2.2.2.2.2.2.2.2.2.2.2.1
theorem d_M_read_36 : decode prog_10_method_89_code 36 = .ok (.iload 7, 2) := dd_M_read_0.2.2.2.2.2.2.2.2.2.2.2.2.2.2.2.2.2.2.2.2.1
theorem d_M_read_38 : decode prog_10_method_89_code 38 = .ok (.iload 4, 2) := dd_M_read_0.2.2.2.2.2.2.2.2.2.2.2.2.2.2.2.2.2.2.2.2.2.1
theorem d_M_read_40 : decode prog_10_method_89_code 40 = .ok (.if_icmp .ge 158, 3) := dd_M_read_0.2.2.2.2.2.2.2.2.2.2.2.2.2.2.2.2.2.2.2.2.2.2.1
theorem d_M_read_43 : decode prog_10_method_89_code 43 = .ok (.iload 5, 2) := dd_M_read_0.2.2.2.2.2.2.2.2.2.2.2.2.2.2.2.2.2.2.2.2.2.2.2
set_option maxRecDepth 100000 in
theorem dd_M_read_45 : (decode prog_10_method_89_code 45 = .ok (.ifCond .ne 153, 3)) ∧ (decode prog_10_method_89_code 48 = .ok (.iconst 0, 1)) ∧ (decode prog_10_method_89_code 49 = .ok (.istore 8, 2)) ∧ (decode prog_10_method_89_code 51 = .ok (.iload 8, 2)) ∧ (decode prog_10_method_89_code 53 = .ok (.iconst 2, 1)) ∧ (decode prog_10_method_89_code 54 = .ok (.if_icmp .ge 84, 3)) ∧ (decode prog_10_method_89_code 57 = .ok (.iload 5, 2)) ∧ (decode prog_10_method_89_code 59 = .ok (.ifCond .ne 79, 3)) ∧ (decode prog_10_method_89_code 62 = .ok (.iload_n 3, 1)) ∧ (decode prog_10_method_89_code 63 = .ok (.i2l, 1)) ∧ (decode prog_10_method_89_code 64 = .ok (.iconst 2, 1)) ∧ (decode prog_10_method_89_code 65 = .ok (.iload 7, 2)) ∧ (decode prog_10_method_89_code 67 = .ok (.imul, 1)) ∧ (decode prog_10_method_89_code 68 = .ok (.i2l, 1)) ∧ (decode prog_10_method_89_code 69 = .ok (.ladd, 1)) ∧ (decode prog_10_method_89_code 70 = .ok (.iload 8, 2)) ∧ (decode prog_10_method_89_code 72 = .ok (.i2l, 1)) ∧ (decode prog_10_method_89_code 73 = .ok (.ladd, 1)) ∧ (decode prog_10_method_89_code 74 = .ok (.lstore 9, 2)) ∧ (decode prog_10_method_89_code 76 = .ok (.aload_n 0, 1)) ∧ (decode prog_10_method_89_code 77 = .ok (.getfield 78, 3)) ∧ (decode prog_10_method_89_code 80 = .ok (.iload_n 1, 1)) ∧ (decode prog_10_method_89_code 81 = .ok (.iaload, 1)) ∧ (decode prog_10_method_89_code 82 = .ok (.bipush (-4), 2)) := by
  have h : List.drop 45 prog_10_method_89_code.data.toList = 0x9a :: _ := rfl
  refine ⟨zq_k_s2 154 (fun z => .ifCond .ne z) 153 h rfl (zq_o_154 _) (by decide +kernel), ?_⟩
  replace h := zq_nx3 (q := 48) h rfl
  refine ⟨zq_k_n 3 h rfl (zq_o_3 _), ?_⟩
  replace h := zq_nx1 (q := 49) h rfl
  refine ⟨zq_k_u1 54 (fun z => .istore z) 8 h rfl (zq_o_54 _) (by decide +kernel), ?_⟩
  replace h := zq_nx2 (q := 51) h rfl
  refine ⟨zq_k_u1 21 (fun z => .iload z) 8 h rfl (zq_o_21 _) (by decide +kernel), ?_⟩
  replace h := zq_nx2 (q := 53) h rfl
  refine ⟨zq_k_n 5 h rfl (zq_o_5 _), ?_⟩
  replace h := zq_nx1 (q := 54) h rfl
  refine ⟨zq_k_s2 162 (fun z => .if_icmp .ge z) 84 h rfl (zq_o_162 _) (by decide +kernel), ?_⟩
  replace h := zq_nx3 (q := 57) h rfl
  refine ⟨zq_k_u1 21 (fun z => .iload z) 5 h rfl (zq_o_21 _) (by decide +kernel), ?_⟩
  replace h := zq_nx2 (q := 59) h rfl
  refine ⟨zq_k_s2 154 (fun z => .ifCond .ne z) 79 h rfl (zq_o_154 _) (by decide +kernel), ?_⟩
  replace h := zq_nx3 (q := 62) h rfl
  refine ⟨zq_k_n 29 h rfl (zq_o_29 _), ?_⟩
  replace h := zq_nx1 (q := 63) h rfl
  refine ⟨zq_k_n 133 h rfl (zq_o_133 _), ?_⟩
  replace h := zq_nx1 (q := 64) h rfl
  refine ⟨zq_k_n 5 h rfl (zq_o_5 _), ?_⟩
  replace h := zq_nx1 (q := 65) h rfl
  refine ⟨zq_k_u1 21 (fun z => .iload z) 7 h rfl (zq_o_21 _) (by decide +kernel), ?_⟩
  replace h := zq_nx2 (q := 67) h rfl
  refine ⟨zq_k_n 104 h rfl (zq_o_104 _), ?_⟩
  replace h := zq_nx1 (q := 68) h rfl
  refine ⟨zq_k_n 133 h rfl (zq_o_133 _), ?_⟩
  replace h := zq_nx1 (q := 69) h rfl
  refine ⟨zq_k_n 97 h rfl (zq_o_97 _), ?_⟩
  replace h := zq_nx1 (q := 70) h rfl
  refine ⟨zq_k_u1 21 (fun z => .iload z) 8 h rfl (zq_o_21 _) (by decide +kernel), ?_⟩
  replace h := zq_nx2 (q := 72) h rfl
  refine ⟨zq_k_n 133 h rfl (zq_o_133 _), ?_⟩
  replace h := zq_nx1 (q := 73) h rfl
  refine ⟨zq_k_n 97 h rfl (zq_o_97 _), ?_⟩
  replace h := zq_nx1 (q := 74) h rfl
  refine ⟨zq_k_u1 55 (fun z => .lstore z) 9 h rfl (zq_o_55 _) (by decide +kernel), ?_⟩
  replace h := zq_nx2 (q := 76) h rfl
  refine ⟨zq_k_n 42 h rfl (zq_o_42 _), ?_⟩
  replace h := zq_nx1 (q := 77) h rfl
  refine ⟨zq_k_u2 180 (fun z => .getfield z) 78 h rfl (zq_o_180 _) (by decide +kernel), ?_⟩
  replace h := zq_nx3 (q := 80) h rfl
  refine ⟨zq_k_n 27 h rfl (zq_o_27 _), ?_⟩
  replace h := zq_nx1 (q := 81) h rfl
  refine ⟨zq_k_n 46 h rfl (zq_o_46 _), ?_⟩
  replace h := zq_nx1 (q := 82) h rfl
  exact zq_k_s1 16 (fun z => .bipush z) (-4) h rfl (zq_o_16 _) (by decide +kernel)
theorem d_M_read_45 : decode prog_10_method_89_code 45 = .ok (.ifCond .ne 153, 3) := dd_M_read_45.1
theorem d_M_read_48 : decode prog_10_method_89_code 48 = .ok (.iconst 0, 1) := dd_M_read_45.2.1
theorem d_M_read_49 : decode prog_10_method_89_code 49 = .ok (.istore 8, 2) := dd_M_read_45.2.2.1
theorem d_M_read_51 : decode prog_10_method_89_code 51 = .ok (.iload 8, 2) := dd_M_read_45.2.2.2.1
theorem d_M_read_53 : decode prog_10_method_89_code 53 = .ok (.iconst 2, 1) := dd_M_read_45.2.2.2.2.1
theorem d_M_read_54 : decode prog_10_method_89_code 54 = .ok (.if_icmp .ge 84, 3) := dd_M_read_45.2.2.2.2.2.1
theorem d_M_read_57 : decode prog_10_method_89_code 57 = .ok (.iload 5, 2) := dd_M_read_45.2.2.2.2.2.2.1
theorem d_M_read_59 : decode prog_10_method_89_code 59 = .ok (.ifCond .ne 79, 3) := dd_M_read_45.2.2.2.2.2.2.2.1
theorem d_M_read_62 : decode prog_10_method_89_code 62 = .ok (.iload_n 3, 1) := dd_M_read_45.2.2.2.2.2.2.2.2.1
theorem d_M_read_63 : decode prog_10_method_89_code 63 = .ok (.i2l, 1) := dd_M_read_45.2.2.2.2.2.2.2.2.2.1
theorem d_M_read_64 : decode prog_10_method_89_code 64 = .ok (.iconst 2, 1) := dd_M_read_45.2.2.2.2.2.2.2.2.2.2.1
theorem d_M_read_65 : decode prog_10_method_89_code 65 = .ok (.iload 7, 2) := dd_M_read_45.2.2.2.2.2.2.2.2.2.2.2.1
theorem d_M_read_67 : decode prog_10_method_89_code 67 = .ok (.imul, 1) := dd_M_read_45.2.2.2.2.2.2.2.2.2.2.2.2.1
theorem d_M_read_68 : decode prog_10_method_89_code 68 = .ok (.i2l, 1) := dd_M_read_45.2.2.2.2.2.2.2.2.2.2.2.2.2.1
theorem d_M_read_69 : decode prog_10_method_89_code 69 = .ok (.ladd, 1) := dd_M_read_45.2.2.2.2.2.2.2.2.2.2.2.2.2.2.1
theorem d_M_read_70 : decode prog_10_method_89_code 70 = .ok (.iload 8, 2) := dd_M_read_45.2.2.2.2.2.2.2.2.2.2.2.2.2.2.2.1
theorem d_M_read_72 : decode prog_10_method_89_code 72 = .ok (.i2l, 1) := dd_M_read_45.2.2.2.2.2.2.2.2.2.2.2.2.2.2.2.2.1
theorem d_M_read_73 : decode prog_10_method_89_code 73 = .ok (.ladd, 1) := dd_M_read_45.2.2.2.2.2.2.2.2.2.2.2.2.2.2.2.2.2.1
theorem d_M_read_74 : decode prog_10_method_89_code 74 = .ok (.lstore 9, 2) := dd_M_read_45.2.2.2.2.2.2.2.2.2.2.2.2.2.2.2.2.2.2.1
theorem d_M_read_76 : decode prog_10_method_89_code 76 = .ok (.aload_n 0, 1) := dd_M_read_45.2.2.2.2.2.2.2.2.2.2.2.2.2.2.2.2.2.2.2.1
theorem d_M_read_77 : decode prog_10_method_89_code 77 = .ok (.getfield 78, 3) := dd_M_read_45.2.2.2.2.2.2.2.2.2.2.2.2.2.2.2.2.2.2.2.2.1
theorem d_M_read_80 : decode prog_10_method_89_code 80 = .ok (.iload_n 1, 1) := dd_M_read_45.2.2.2.2.2.2.2.2.2.2.2.2.2.2.2.2.2.2.2.2.2.1
theorem d_M_read_81 : decode prog_10_method_89_code 81 = .ok (.iaload, 1) := dd_M_read_45.2.2.2.2.2.2.2.2.2.2.2.2.2.2.2.2.2.2.2.2.2.2.1
theorem d_M_read_82 : decode prog_10_method_89_code 82 = .ok (.bipush (-4), 2) := dd_M_read_45.2.2.2.2.2.2.2.2.2.2.2.2.2.2.2.2.2.2.2.2.2.2.2
set_option maxRecDepth 100000 in
theorem dd_M_read_84 : (decode prog_10_method_89_code 84 = .ok (.if_icmp .ne 7, 3)) ∧ (decode prog_10_method_89_code 87 = .ok (.iconst 1, 1)) ∧ (decode prog_10_method_89_code 88 = .ok (.goto 42, 3)) ∧ (decode prog_10_method_89_code 91 = .ok (.aload_n 0, 1)) ∧ (decode prog_10_method_89_code 92 = .ok (.getfield 78, 3)) ∧ (decode prog_10_method_89_code 95 = .ok (.iload_n 1, 1)) ∧ (decode prog_10_method_89_code 96 = .ok (.iaload, 1)) ∧ (decode prog_10_method_89_code 97 = .ok (.iload_n 2, 1)) ∧ (decode prog_10_method_89_code 98 = .ok (.if_icmp .eq 7, 3)) ∧ (decode prog_10_method_89_code 101 = .ok (.iconst 3, 1)) ∧ (decode prog_10_method_89_code 102 = .ok (.goto 28, 3)) ∧ (decode prog_10_method_89_code 105 = .ok (.lload 9, 2)) ∧ (decode prog_10_method_89_code 107 = .ok (.lconst 0, 1)) ∧ (decode prog_10_method_89_code 108 = .ok (.lcmp, 1)) ∧ (decode prog_10_method_89_code 109 = .ok (.ifCond .lt 16, 3)) ∧ (decode prog_10_method_89_code 112 = .ok (.lload 9, 2)) ∧ (decode prog_10_method_89_code 114 = .ok (.aload_n 0, 1)) ∧ (decode prog_10_method_89_code 115 = .ok (.getfield 81, 3)) ∧ (decode prog_10_method_89_code 118 = .ok (.iload_n 1, 1)) ∧ (decode prog_10_method_89_code 119 = .ok (.iaload, 1)) ∧ (decode prog_10_method_89_code 120 = .ok (.i2l, 1)) ∧ (decode prog_10_method_89_code 121 = .ok (.lcmp, 1)) ∧ (decode prog_10_method_89_code 122 = .ok (.ifCond .lt 7, 3)) ∧ (decode prog_10_method_89_code 125 = .ok (.iconst 2, 1)) := by
  have h : List.drop 84 prog_10_method_89_code.data.toList = 0xa0 :: _ := rfl
  refine ⟨zq_k_s2 160 (fun z => .if_icmp .ne z) 7 h rfl (zq_o_160 _) (by decide +kernel), ?_⟩
  replace h := zq_nx3 (q := 87) h rfl
  refine ⟨zq_k_n 4 h rfl (zq_o_4 _), ?_⟩
  replace h := zq_nx1 (q := 88) h rfl
  refine ⟨zq_k_s2 167 (fun z => .goto z) 42 h rfl (zq_o_167 _) (by decide +kernel), ?_⟩
  replace h := zq_nx3 (q := 91) h rfl
  refine ⟨zq_k_n 42 h rfl (zq_o_42 _), ?_⟩
  replace h := zq_nx1 (q := 92) h rfl
  refine ⟨zq_k_u2 180 (fun z => .getfield z) 78 h rfl (zq_o_180 _) (by decide +kernel), ?_⟩
  replace h := zq_nx3 (q := 95) h rfl
  refine ⟨zq_k_n 27 h rfl (zq_o_27 _), ?_⟩
  replace h := zq_nx1 (q := 96) h rfl
  refine ⟨zq_k_n 46 h rfl (zq_o_46 _), ?_⟩
  replace h := zq_nx1 (q := 97) h rfl
  refine ⟨zq_k_n 28 h rfl (zq_o_28 _), ?_⟩
  replace h := zq_nx1 (q := 98) h rfl
  refine ⟨zq_k_s2 159 (fun z => .if_icmp .eq z) 7 h rfl (zq_o_159 _) (by decide +kernel), ?_⟩
  replace h := zq_nx3 (q := 101) h rfl
  refine ⟨zq_k_n 6 h rfl (zq_o_6 _), ?_⟩
  replace h := zq_nx1 (q := 102) h rfl
  refine ⟨zq_k_s2 167 (fun z => .goto z) 28 h rfl (zq_o_167 _) (by decide +kernel), ?_⟩
  replace h := zq_nx3 (q := 105) h rfl
  refine ⟨zq_k_u1 22 (fun z => .lload z) 9 h rfl (zq_o_22 _) (by decide +kernel), ?_⟩
  replace h := zq_nx2 (q := 107) h rfl
  refine ⟨zq_k_n 9 h rfl (zq_o_9 _), ?_⟩
  replace h := zq_nx1 (q := 108) h rfl
  refine ⟨zq_k_n 148 h rfl (zq_o_148 _), ?_⟩
  replace h := zq_nx1 (q := 109) h rfl
  refine ⟨zq_k_s2 155 (fun z => .ifCond .lt z) 16 h rfl (zq_o_155 _) (by decide +kernel), ?_⟩
  replace h := zq_nx3 (q := 112) h rfl
  refine ⟨zq_k_u1 22 (fun z => .lload z) 9 h rfl (zq_o_22 _) (by decide +kernel), ?_⟩
  replace h := zq_nx2 (q := 114) h rfl
  refine ⟨zq_k_n 42 h rfl (zq_o_42 _), ?_⟩
  replace h := zq_nx1 (q := 115) h rfl
  refine ⟨zq_k_u2 180 (fun z => .getfield z) 81 h rfl (zq_o_180 _) (by decide +kernel), ?_⟩
  replace h := zq_nx3 (q := 118) h rfl
  refine ⟨zq_k_n 27 h rfl (zq_o_27 _), ?_⟩
  replace h := zq_nx1 (q := 119) h rfl
  refine ⟨zq_k_n 46 h rfl (zq_o_46 _), ?_⟩
  replace h := zq_nx1 (q := 120) h rfl
  refine ⟨zq_k_n 133 h rfl (zq_o_133 _), ?_⟩
  replace h := zq_nx1 (q := 121) h rfl
  refine ⟨zq_k_n 148 h rfl (zq_o_148 _), ?_⟩
  replace h := zq_nx1 (q := 122) h rfl
  refine ⟨zq_k_s2 155 (fun z => .ifCond .lt z) 7 h rfl (zq_o_155 _) (by decide +kernel), ?_⟩
  replace h := zq_nx3 (q := 125) h rfl
  exact zq_k_n 5 h rfl (zq_o_5 _)
theorem d_M_read_84 : decode prog_10_method_89_code 84 = .ok (.if_icmp .ne 7, 3) := dd_M_read_84.1
theorem d_M_read_87 : decode prog_10_method_89_code 87 = .ok (.iconst 1, 1) := dd_M_read_84.2.1
theorem d_M_read_88 : decode prog_10_method_89_code 88 = .ok (.goto 42, 3) := dd_M_read_84.2.2.1
theorem d_M_read_91 : decode prog_10_method_89_code 91 = .ok (.aload_n 0, 1) := dd_M_read_84.2.2.2.1
theorem d_M_read_92 : decode prog_10_method_89_code 92 = .ok (.getfield 78, 3) := dd_M_read_84.2.2.2.2.1
theorem d_M_read_95 : decode prog_10_method_89_code 95 = .ok (.iload_n 1, 1) := dd_M_read_84.2.2.2.2.2.1
theorem d_M_read_96 : decode prog_10_method_89_code 96 = .ok (.iaload, 1) := dd_M_read_84.2.2.2.2.2.2.1
theorem d_M_read_97 : decode prog_10_method_89_code 97 = .ok (.iload_n 2, 1) := dd_M_read_84.2.2.2.2.2.2.2.1
theorem d_M_read_98 : decode prog_10_method_89_code 98 = .ok (.if_icmp .eq 7, 3) := dd_M_read_84.2.2.2.2.2.2.2.2.1
theorem d_M_read_101 : decode prog_10_method_89_code 101 = .ok (.iconst 3, 1) := dd_M_read_84.2.2.2.2.2.2.2.2.2.1
theorem d_M_read_102 : decode prog_10_method_89_code 102 = .ok (.goto 28, 3) := dd_M_read_84.2.2.2.2.2.2.2.2.2.2.1
theorem d_M_read_105 : decode prog_10_method_89_code 105 = .ok (.lload 9, 2) := dd_M_read_84.2.2.2.2.2.2.2.2.2.2.2.1
theorem d_M_read_107 : decode prog_10_method_89_code 107 = .ok (.lconst 0, 1) := dd_M_read_84.2.2.2.2.2.2.2.2.2.2.2.2.1
theorem d_M_read_108 : decode prog_10_method_89_code 108 = .ok (.lcmp, 1) := dd_M_read_84.2.2.2.2.2.2.2.2.2.2.2.2.2.1
theorem d_M_read_109 : decode prog_10_method_89_code 109 = .ok (.ifCond .lt 16, 3) := dd_M_read_84.2.2.2.2.2.2.2.2.2.2.2.2.2.2.1
theorem d_M_read_112 : decode prog_10_method_89_code 112 = .ok (.lload 9, 2) := dd_M_read_84.2.2.2.2.2.2.2.2.2.2.2.2.2.2.2.1
theorem d_M_read_114 : decode prog_10_method_89_code 114 = .ok (.aload_n 0, 1) := dd_M_read_84.2.2.2.2.2.2.2.2.2.2.2.2.2.2.2.2.1
theorem d_M_read_115 : decode prog_10_method_89_code 115 = .ok (.getfield 81, 3) := dd_M_read_84.2.2.2.2.2.2.2.2.2.2.2.2.2.2.2.2.2.1
theorem d_M_read_118 : decode prog_10_method_89_code 118 = .ok (.iload_n 1, 1) := dd_M_read_84.2.2.2.2.2.2.2.2.2.2.2.2.2.2.2.2.2.2.1
theorem d_M_read_119 : decode prog_10_method_89_code 119 = .ok (.iaload, 1) := dd_M_read_84.2.2.2.2.2.2.2.2.2.2.2.2.2.2.2.2.2.2.2.1
theorem d_M_read_120 : decode prog_10_method_89_code 120 = .ok (.i2l, 1) := dd_M_read_84.2.2.2.2.2.2.2.2.2.2.2.2.2.2.2.2.2.2.2.2.1
theorem d_M_read_121 : decode prog_10_method_89_code 121 = .ok (.lcmp, 1) := dd_M_read_84.2.2.2.2.2.2.2.2.2.2.2.2.2.2.2.2.2.2.2.2.2.1
theorem d_M_read_122 : decode prog_10_method_89_code 122 = .ok (.ifCond .lt 7, 3) := dd_M_read_84.2.2.2.2.2.2.2.2.2.2.2.2.2.2.2.2.2.2.2.2.2.2.1
theorem d_M_read_125 : decode prog_10_method_89_code 125 = .ok (.iconst 2, 1) := dd_M_read_84.2.2.2.2.2.2.2.2.2.2.2.2.2.2.2.2.2.2.2.2.2.2.2
set_option maxRecDepth 100000 in
theorem dd_M_read_126 : (decode prog_10_method_89_code 126 = .ok (.goto 4, 3)) ∧ (decode prog_10_method_89_code 129 = .ok (.iconst 0, 1)) ∧ (decode prog_10_method_89_code 130 = .ok (.istore 5, 2)) ∧ (decode prog_10_method_89_code 132 = .ok (.iinc 8 1, 3)) ∧ (decode prog_10_method_89_code 135 = .ok (.goto (-84), 3)) ∧ (decode prog_10_method_89_code 138 = .ok (.iload 5, 2)) ∧ (decode prog_10_method_89_code 140 = .ok (.ifCond .ne 52, 3)) ∧ (decode prog_10_method_89_code 143 = .ok (.bipush 40, 2)) ∧ (decode prog_10_method_89_code 145 = .ok (.iload_n 1, 1)) ∧ (decode prog_10_method_89_code 146 = .ok (.imul, 1)) ∧ (decode prog_10_method_89_code 147 = .ok (.iload_n 3, 1)) ∧ (decode prog_10_method_89_code 148 = .ok (.iadd, 1)) ∧ (decode prog_10_method_89_code 149 = .ok (.iconst 2, 1)) ∧ (decode prog_10_method_89_code 150 = .ok (.iload 7, 2)) ∧ (decode prog_10_method_89_code 152 = .ok (.imul, 1)) ∧ (decode prog_10_method_89_code 153 = .ok (.iadd, 1)) ∧ (decode prog_10_method_89_code 154 = .ok (.istore 8, 2)) ∧ (decode prog_10_method_89_code 156 = .ok (.aload_n 0, 1)) ∧ (decode prog_10_method_89_code 157 = .ok (.aload_n 0, 1)) ∧ (decode prog_10_method_89_code 158 = .ok (.getfield 84, 3)) ∧ (decode prog_10_method_89_code 161 = .ok (.iload 8, 2)) ∧ (decode prog_10_method_89_code 163 = .ok (.iaload, 1)) ∧ (decode prog_10_method_89_code 164 = .ok (.aload_n 0, 1)) ∧ (decode prog_10_method_89_code 165 = .ok (.getfield 84, 3)) := by
  have h : List.drop 126 prog_10_method_89_code.data.toList = 0xa7 :: _ := rfl
  refine ⟨zq_k_s2 167 (fun z => .goto z) 4 h rfl (zq_o_167 _) (by decide +kernel), ?_⟩
  replace h := zq_nx3 (q := 129) h rfl
  refine ⟨zq_k_n 3 h rfl (zq_o_3 _), ?_⟩
  replace h := zq_nx1 (q := 130) h rfl
  refine ⟨zq_k_u1 54 (fun z => .istore z) 5 h rfl (zq_o_54 _) (by decide +kernel), ?_⟩
  replace h := zq_nx2 (q := 132) h rfl
  refine ⟨zq_k_iinc 8 1 h rfl (zq_o_132 _) (by decide +kernel) (by decide +kernel), ?_⟩
  replace h := zq_nx3 (q := 135) h rfl
  refine ⟨zq_k_s2 167 (fun z => .goto z) (-84) h rfl (zq_o_167 _) (by decide +kernel), ?_⟩
  replace h := zq_nx3 (q := 138) h rfl
  refine ⟨zq_k_u1 21 (fun z => .iload z) 5 h rfl (zq_o_21 _) (by decide +kernel), ?_⟩
  replace h := zq_nx2 (q := 140) h rfl
  refine ⟨zq_k_s2 154 (fun z => .ifCond .ne z) 52 h rfl (zq_o_154 _) (by decide +kernel), ?_⟩
  replace h := zq_nx3 (q := 143) h rfl
  refine ⟨zq_k_s1 16 (fun z => .bipush z) 40 h rfl (zq_o_16 _) (by decide +kernel), ?_⟩
  replace h := zq_nx2 (q := 145) h rfl
  refine ⟨zq_k_n 27 h rfl (zq_o_27 _), ?_⟩
  replace h := zq_nx1 (q := 146) h rfl
  refine ⟨zq_k_n 104 h rfl (zq_o_104 _), ?_⟩
  replace h := zq_nx1 (q := 147) h rfl
  refine ⟨zq_k_n 29 h rfl (zq_o_29 _), ?_⟩
  replace h := zq_nx1 (q := 148) h rfl
  refine ⟨zq_k_n 96 h rfl (zq_o_96 _), ?_⟩
  replace h := zq_nx1 (q := 149) h rfl
  refine ⟨zq_k_n 5 h rfl (zq_o_5 _), ?_⟩
  replace h := zq_nx1 (q := 150) h rfl
  refine ⟨zq_k_u1 21 (fun z => .iload z) 7 h rfl (zq_o_21 _) (by decide +kernel), ?_⟩
  replace h := zq_nx2 (q := 152) h rfl
  refine ⟨zq_k_n 104 h rfl (zq_o_104 _), ?_⟩
  replace h := zq_nx1 (q := 153) h rfl
  refine ⟨zq_k_n 96 h rfl (zq_o_96 _), ?_⟩
  replace h := zq_nx1 (q := 154) h rfl
  refine ⟨zq_k_u1 54 (fun z => .istore z) 8 h rfl (zq_o_54 _) (by decide +kernel), ?_⟩
  replace h := zq_nx2 (q := 156) h rfl
  refine ⟨zq_k_n 42 h rfl (zq_o_42 _), ?_⟩
  replace h := zq_nx1 (q := 157) h rfl
  refine ⟨zq_k_n 42 h rfl (zq_o_42 _), ?_⟩
  replace h := zq_nx1 (q := 158) h rfl
  refine ⟨zq_k_u2 180 (fun z => .getfield z) 84 h rfl (zq_o_180 _) (by decide +kernel), ?_⟩
  replace h := zq_nx3 (q := 161) h rfl
  refine ⟨zq_k_u1 21 (fun z => .iload z) 8 h rfl (zq_o_21 _) (by decide +kernel), ?_⟩
  replace h := zq_nx2 (q := 163) h rfl
  refine ⟨zq_k_n 46 h rfl (zq_o_46 _), ?_⟩
  replace h := zq_nx1 (q := 164) h rfl
  refine ⟨zq_k_n 42 h rfl (zq_o_42 _), ?_⟩
  replace h := zq_nx1 (q := 165) h rfl
  exact zq_k_u2 180 (fun z => .getfield z) 84 h rfl (zq_o_180 _) (by decide +kernel)
theorem d_M_read_126 : decode prog_10_method_89_code 126 = .ok (.goto 4, 3) := dd_M_read_126.1
theorem d_M_read_129 : decode prog_10_method_89_code 129 = .ok (.iconst 0, 1) := dd_M_read_126.2.1
theorem d_M_read_130 : decode prog_10_method_89_code 130 = .ok (.istore 5, 2) := dd_M_read_126.2.2.1
theorem d_M_read_132 : decode prog_10_method_89_code 132 = .ok (.iinc 8 1, 3) := dd_M_read_126.2.2.2.1
theorem d_M_read_135 : decode prog_10_method_89_code 135 = .ok (.goto (-84), 3) := dd_M_read_126.2.2.2.2.1
theorem d_M_read_138 : decode prog_10_method_89_code 138 = .ok (.iload 5, 2) := dd_M_read_126.2.2.2.2.2.1
theorem d_M_read_140 : decode prog_10_method_89_code 140 = .ok (.ifCond .ne 52, 3) := dd_M_read_126.2.2.2.2.2.2.1
theorem d_M_read_143 : decode prog_10_method_89_code 143 = .ok (.bipush 40, 2) := dd_M_read_126.2.2.2.2.2.2.2.1
theorem d_M_read_145 : decode prog_10_method_89_code 145 = .ok (.iload_n 1, 1) := dd_M_read_126.2.2.2.2.2.2.2.2.1
theorem d_M_read_146 : decode prog_10_method_89_code 146 = .ok (.imul, 1) := dd_M_read_126.2.2.2.2.2.2.2.2.2.1
theorem d_M_read_147 : decode prog_10_method_89_code 147 = .ok (.iload_n 3, 1) := dd_M_read_126.2.2.2.2.2.2.2.2.2.2.1
theorem d_M_read_148 : decode prog_10_method_89_code 148 = .ok (.iadd, 1) := dd_M_read_126.2.2.2.2.2.2.2.2.2.2.2.1
theorem d_M_read_149 : decode prog_10_method_89_code 149 = .ok (.iconst 2, 1) := dd_M_read_126.2.2.2.2.2.2.2.2.2.2.2.2.1
theorem d_M_read_150 : decode prog_10_method_89_code 150 = .ok (.iload 7, 2) := dd_M_read_126.2.2.2.2.2.2.2.2.2.2.2.2.2.1
theorem d_M_read_152 : decode prog_10_method_89_code 152 = .ok (.imul, 1) := dd_M_read_126.2.2.2.2.2.2.2.2.2.2.2.2.2.2.1
theorem d_M_read_153 : decode prog_10_method_89_code 153 = .ok (.iadd, 1) := dd_M_read_126.2.2.2.2.2.2.2.2.2.2.2.2.2.2.2.1
theorem d_M_read_154 : decode prog_10_method_89_code 154 = .ok (.istore 8, 2) := dd_M_read_126.2.2.2.2.2.2.2.2.2.2.2.2.2.2.2.2.1
theorem d_M_read_156 : decode prog_10_method_89_code 156 = .ok (.aload_n 0, 1) := dd_M_read_126.2.2.2.2.2.2.2.2.2.2.2.2.2.2.2.2.2.1
theorem d_M_read_157 : decode prog_10_method_89_code 157 = .ok (.aload_n 0, 1) := dd_M_read_126.2.2.2.2.2.2.2.2.2.2.2.2.2.2.2.2.2.2.1
theorem d_M_read_158 : decode prog_10_method_89_code 158 = .ok (.getfield 84, 3) := dd_M_read_126.2.2.2.2.2.2.2.2.2.2.2.2.2.2.2.2.2.2.2.1
theorem d_M_read_161 : decode prog_10_method_89_code 161 = .ok (.iload 8, 2) := dd_M_read_126.2.2.2.2.2.2.2.2.2.2.2.2.2.2.2.2.2.2.2.2.1
theorem d_M_read_163 : decode prog_10_method_89_code 163 = .ok (.iaload, 1) := dd_M_read_126.2.2.2.2.2.2.2.2.2.2.2.2.2.2.2.2.2.2.2.2.2.1
theorem d_M_read_164 : decode prog_10_method_89_code 164 = .ok (.aload_n 0, 1) := dd_M_read_126.2.2.2.2.2.2.2.2.2.2.2.2.2.2.2.2.2.2.2.2.2.2.1
theorem d_M_read_165 : decode prog_10_method_89_code 165 = .ok (.getfield 84, 3) := dd_M_read_126.2.2.2.2.2.2.2.2.2.2.2.2.2.2.2.2.2.2.2.2.2.2.2
set_option maxRecDepth 100000 in
theorem dd_M_read_168 : (decode prog_10_method_89_code 168 = .ok (.iload 8, 2)) ∧ (decode prog_10_method_89_code 170 = .ok (.iconst 1, 1)) ∧ (decode prog_10_method_89_code 171 = .ok (.iadd, 1)) ∧ (decode prog_10_method_89_code 172 = .ok (.iaload, 1)) ∧ (decode prog_10_method_89_code 173 = .ok (.invokevirtual 322, 3)) ∧ (decode prog_10_method_89_code 176 = .ok (.ifCond .ge 13, 3)) ∧ (decode prog_10_method_89_code 179 = .ok (.aload_n 0, 1)) ∧ (decode prog_10_method_89_code 180 = .ok (.invokevirtual 281, 3)) ∧ (decode prog_10_method_89_code 183 = .ok (.bipush (-20), 2)) ∧ (decode prog_10_method_89_code 185 = .ok (.iload 7, 2)) ∧ (decode prog_10_method_89_code 187 = .ok (.isub, 1)) ∧ (decode prog_10_method_89_code 188 = .ok (.ireturn, 1)) ∧ (decode prog_10_method_89_code 189 = .ok (.iinc 6 1, 3)) ∧ (decode prog_10_method_89_code 192 = .ok (.iinc 7 1, 3)) ∧ (decode prog_10_method_89_code 195 = .ok (.goto (-159), 3)) ∧ (decode prog_10_method_89_code 198 = .ok (.aload_n 0, 1)) ∧ (decode prog_10_method_89_code 199 = .ok (.iload 5, 2)) ∧ (decode prog_10_method_89_code 201 = .ok (.putfield 332, 3)) ∧ (decode prog_10_method_89_code 204 = .ok (.iload 6, 2)) ∧ (decode prog_10_method_89_code 206 = .ok (.ireturn, 1)) := by
  have h : List.drop 168 prog_10_method_89_code.data.toList = 0x15 :: _ := rfl
  refine ⟨zq_k_u1 21 (fun z => .iload z) 8 h rfl (zq_o_21 _) (by decide +kernel), ?_⟩
  replace h := zq_nx2 (q := 170) h rfl
  refine ⟨zq_k_n 4 h rfl (zq_o_4 _), ?_⟩
  replace h := zq_nx1 (q := 171) h rfl
  refine ⟨zq_k_n 96 h rfl (zq_o_96 _), ?_⟩
  replace h := zq_nx1 (q := 172) h rfl
  refine ⟨zq_k_n 46 h rfl (zq_o_46 _), ?_⟩
  replace h := zq_nx1 (q := 173) h rfl
  refine ⟨zq_k_u2 182 (fun z => .invokevirtual z) 322 h rfl (zq_o_182 _) (by decide +kernel), ?_⟩
  replace h := zq_nx3 (q := 176) h rfl
  refine ⟨zq_k_s2 156 (fun z => .ifCond .ge z) 13 h rfl (zq_o_156 _) (by decide +kernel), ?_⟩
  replace h := zq_nx3 (q := 179) h rfl
  refine ⟨zq_k_n 42 h rfl (zq_o_42 _), ?_⟩
  replace h := zq_nx1 (q := 180) h rfl
  refine ⟨zq_k_u2 182 (fun z => .invokevirtual z) 281 h rfl (zq_o_182 _) (by decide +kernel), ?_⟩
  replace h := zq_nx3 (q := 183) h rfl
  refine ⟨zq_k_s1 16 (fun z => .bipush z) (-20) h rfl (zq_o_16 _) (by decide +kernel), ?_⟩
  replace h := zq_nx2 (q := 185) h rfl
  refine ⟨zq_k_u1 21 (fun z => .iload z) 7 h rfl (zq_o_21 _) (by decide +kernel), ?_⟩
  replace h := zq_nx2 (q := 187) h rfl
  refine ⟨zq_k_n 100 h rfl (zq_o_100 _), ?_⟩
  replace h := zq_nx1 (q := 188) h rfl
  refine ⟨zq_k_n 172 h rfl (zq_o_172 _), ?_⟩
  replace h := zq_nx1 (q := 189) h rfl
  refine ⟨zq_k_iinc 6 1 h rfl (zq_o_132 _) (by decide +kernel) (by decide +kernel), ?_⟩
  replace h := zq_nx3 (q := 192) h rfl
  refine ⟨zq_k_iinc 7 1 h rfl (zq_o_132 _) (by decide +kernel) (by decide +kernel), ?_⟩
  replace h := zq_nx3 (q := 195) h rfl
  refine ⟨zq_k_s2 167 (fun z => .goto z) (-159) h rfl (zq_o_167 _) (by decide +kernel), ?_⟩
  replace h := zq_nx3 (q := 198) h rfl
  refine ⟨zq_k_n 42 h rfl (zq_o_42 _), ?_⟩
  replace h := zq_nx1 (q := 199) h rfl
  refine ⟨zq_k_u1 21 (fun z => .iload z) 5 h rfl (zq_o_21 _) (by decide +kernel), ?_⟩
  replace h := zq_nx2 (q := 201) h rfl
  refine ⟨zq_k_u2 181 (fun z => .putfield z) 332 h rfl (zq_o_181 _) (by decide +kernel), ?_⟩
  replace h := zq_nx3 (q := 204) h rfl
  refine ⟨zq_k_u1 21 (fun z => .iload z) 6 h rfl (zq_o_21 _) (by decide +kernel), ?_⟩
  replace h := zq_nx2 (q := 206) h rfl
  exact zq_k_n 172 h rfl (zq_o_172 _)
theorem d_M_read_168 : decode prog_10_method_89_code 168 = .ok (.iload 8, 2) := dd_M_read_168.1
theorem d_M_read_170 : decode prog_10_method_89_code 170 = .ok (.iconst 1, 1) := dd_M_read_168.2.1
theorem d_M_read_171 : decode prog_10_method_89_code 171 = .ok (.iadd, 1) := dd_M_read_168.2.2.1
theorem d_M_read_172 : decode prog_10_method_89_code 172 = .ok (.iaload, 1) := dd_M_read_168.2.2.2.1
theorem d_M_read_173 : decode prog_10_method_89_code 173 = .ok (.invokevirtual 322, 3) := dd_M_read_168.2.2.2.2.1
theorem d_M_read_176 : decode prog_10_method_89_code 176 = .ok (.ifCond .ge 13, 3) := dd_M_read_168.2.2.2.2.2.1
theorem d_M_read_179 : decode prog_10_method_89_code 179 = .ok (.aload_n 0, 1) := dd_M_read_168.2.2.2.2.2.2.1
theorem d_M_read_180 : decode prog_10_method_89_code 180 = .ok (.invokevirtual 281, 3) := dd_M_read_168.2.2.2.2.2.2.2.1
theorem d_M_read_183 : decode prog_10_method_89_code 183 = .ok (.bipush (-20), 2) := dd_M_read_168.2.2.2.2.2.2.2.2.1
theorem d_M_read_185 : decode prog_10_method_89_code 185 = .ok (.iload 7, 2) := dd_M_read_168.2.2.2.2.2.2.2.2.2.1
theorem d_M_read_187 : decode prog_10_method_89_code 187 = .ok (.isub, 1) := dd_M_read_168.2.2.2.2.2.2.2.2.2.2.1
theorem d_M_read_188 : decode prog_10_method_89_code 188 = .ok (.ireturn, 1) := dd_M_read_168.2.2.2.2.2.2.2.2.2.2.2.1
theorem d_M_read_189 : decode prog_10_method_89_code 189 = .ok (.iinc 6 1, 3) := dd_M_read_168.2.2.2.2.2.2.2.2.2.2.2.2.1
theorem d_M_read_192 : decode prog_10_method_89_code 192 = .ok (.iinc 7 1, 3) := dd_M_read_168.2.2.2.2.2.2.2.2.2.2.2.2.2.1
theorem d_M_read_195 : decode prog_10_method_89_code 195 = .ok (.goto (-159), 3) := dd_M_read_168.2.2.2.2.2.2.2.2.2.2.2.2.2.2.1
theorem d_M_read_198 : decode prog_10_method_89_code 198 = .ok (.aload_n 0, 1) := dd_M_read_168.2.2.2.2.2.2.2.2.2.2.2.2.2.2.2.1
theorem d_M_read_199 : decode prog_10_method_89_code 199 = .ok (.iload 5, 2) := dd_M_read_168.2.2.2.2.2.2.2.2.2.2.2.2.2.2.2.2.1
theorem d_M_read_201 : decode prog_10_method_89_code 201 = .ok (.putfield 332, 3) := dd_M_read_168.2.2.2.2.2.2.2.2.2.2.2.2.2.2.2.2.2.1
theorem d_M_read_204 : decode prog_10_method_89_code 204 = .ok (.iload 6, 2) := dd_M_read_168.2.2.2.2.2.2.2.2.2.2.2.2.2.2.2.2.2.2.1
theorem d_M_read_206 : decode prog_10_method_89_code 206 = .ok (.ireturn, 1) := dd_M_read_168.2.2.2.2.2.2.2.2.2.2.2.2.2.2.2.2.2.2.2
def f_M_read_198  (b0 : Nat) (b5 : Int32) (b6 : Int32) (h : mH) : Option (Int32 × mH) :=
  bd1 (pV h b0 8 38 (.int b5)) fun h52 =>
  some (b6, h52)
set_option maxRecDepth 20000 in
theorem t_M_read_198 {sc : Nat × (Nat → Int32)}  (b0 : Nat) (b5 : Int32) (b6 : Int32) (h : mH) (r : Int32) (h' : mH) (hf : f_M_read_198  b0 b5 b6 h = some (r, h')) : G sc y_M_read prog_10_method_89_code 11 (some .int) 5 113 198 [(0, .ref b0), (5, .int b5), (6, .int b6)] [] h (some (.int r)) h' := by
  unfold f_M_read_198 at hf
  refine g_aload_n (pc := 198) 0 d_M_read_198 rfl rfl ?_
  refine g_iload (pc := 199) 1 d_M_read_199 rfl ?_
  obtain ⟨h52, e53, hf⟩ := bd1_e hf
  refine g_put (pc := 201) (ci := 8) (kk := 38) ty_M tyok_M nm_M d_M_read_201 rfl in_M (by decide) wd_976 rfl (fun _ => rfl) (fun _ => rfl) (fun _ z => by cases z) e53 ?_
  refine g_iload (pc := 204) 2 d_M_read_204 rfl ?_
  obtain ⟨rfl, rfl⟩ := ret2 hf
  exact g_iret (pc := 206) rfl d_M_read_206
def f_M_read_192 (rec36 : Nat → Int32 → Int32 → Int32 → Int32 → Int32 → Int32 → Int32 → mH → Option (Int32 × mH)) (b0 : Nat) (b1 : Int32) (b2 : Int32) (b3 : Int32) (b4 : Int32) (b5 : Int32) (b6 : Int32) (b7 : Int32) (h : mH) : Option (Int32 × mH) :=
  rec36 b0 b1 b2 b3 b4 b5 b6 (b7 + (1 : Int32)) h
set_option maxRecDepth 20000 in
theorem t_M_read_192 {sc : Nat × (Nat → Int32)} (rec36 : Nat → Int32 → Int32 → Int32 → Int32 → Int32 → Int32 → Int32 → mH → Option (Int32 × mH)) (hrec36 : ∀ (b0 : Nat) (b1 : Int32) (b2 : Int32) (b3 : Int32) (b4 : Int32) (b5 : Int32) (b6 : Int32) (b7 : Int32) (h : mH) (r : Int32) (h' : mH), rec36 b0 b1 b2 b3 b4 b5 b6 b7 h = some (r, h') → G sc y_M_read prog_10_method_89_code 11 (some .int) 5 113 36 [(0, .ref b0), (1, .int b1), (2, .int b2), (3, .int b3), (4, .int b4), (5, .int b5), (6, .int b6), (7, .int b7)] [] h (some (.int r)) h') (b0 : Nat) (b1 : Int32) (b2 : Int32) (b3 : Int32) (b4 : Int32) (b5 : Int32) (b6 : Int32) (b7 : Int32) (h : mH) (r : Int32) (h' : mH) (hf : f_M_read_192 rec36 b0 b1 b2 b3 b4 b5 b6 b7 h = some (r, h')) : G sc y_M_read prog_10_method_89_code 11 (some .int) 5 113 192 [(0, .ref b0), (1, .int b1), (2, .int b2), (3, .int b3), (4, .int b4), (5, .int b5), (6, .int b6), (7, .int b7)] [] h (some (.int r)) h' := by
  unfold f_M_read_192 at hf
  refine g_iinc (pc := 192) 7 (b7 + (1 : Int32)) [(7, .int (b7 + (1 : Int32))), (0, .ref b0), (1, .int b1), (2, .int b2), (3, .int b3), (4, .int b4), (5, .int b5), (6, .int b6)] d_M_read_192 rfl rfl (Nat.le_of_ble_eq_true rfl) rfl ?_
  refine g_goto (pc := 195) 36 d_M_read_195 (by decide) ?_
  refine g_lv [1, 2, 3, 4, 5, 6, 7, 0] rfl ?_
  exact hrec36 _ _ _ _ _ _ _ _ _ _ _  hf
def f_M_read_138 (rec36 : Nat → Int32 → Int32 → Int32 → Int32 → Int32 → Int32 → Int32 → mH → Option (Int32 × mH)) (b0 : Nat) (b1 : Int32) (b2 : Int32) (b3 : Int32) (b4 : Int32) (b5 : Int32) (b6 : Int32) (b7 : Int32) (h : mH) : Option (Int32 × mH) :=
  if b5 = 0 then
    bd1 (gR h b0 8 37) fun x33 =>
    bd1 (aI h 0 x33 ((((40 : Int32) * b1) + b3) + ((2 : Int32) * b7))) fun x35 =>
    bd1 (gR h b0 8 37) fun x37 =>
    bd1 (aI h 0 x37 (((((40 : Int32) * b1) + b3) + ((2 : Int32) * b7)) + (1 : Int32))) fun x39 =>
    bd1 (kC h b0 8) fun _ =>
    bd2 (f_M_breaks b0 x35 x39 h) fun x45 h43 =>
    if 0 ≤ x45 then
      f_M_read_192 rec36 b0 b1 b2 b3 b4 b5 (b6 + (1 : Int32)) b7 h43
    else
      bd1 (kC h43 b0 8) fun _ =>
      bd1 (f_M_returns b0 h43) fun h48 =>
      some (((-20) : Int32) - b7, h48)
  else
    f_M_read_192 rec36 b0 b1 b2 b3 b4 b5 b6 b7 h
set_option maxRecDepth 20000 in
theorem t_M_read_138 {sc : Nat × (Nat → Int32)} (rec36 : Nat → Int32 → Int32 → Int32 → Int32 → Int32 → Int32 → Int32 → mH → Option (Int32 × mH)) (hrec36 : ∀ (b0 : Nat) (b1 : Int32) (b2 : Int32) (b3 : Int32) (b4 : Int32) (b5 : Int32) (b6 : Int32) (b7 : Int32) (h : mH) (r : Int32) (h' : mH), rec36 b0 b1 b2 b3 b4 b5 b6 b7 h = some (r, h') → G sc y_M_read prog_10_method_89_code 11 (some .int) 5 113 36 [(0, .ref b0), (1, .int b1), (2, .int b2), (3, .int b3), (4, .int b4), (5, .int b5), (6, .int b6), (7, .int b7)] [] h (some (.int r)) h') (b0 : Nat) (b1 : Int32) (b2 : Int32) (b3 : Int32) (b4 : Int32) (b5 : Int32) (b6 : Int32) (b7 : Int32) (h : mH) (r : Int32) (h' : mH) (hf : f_M_read_138 rec36 b0 b1 b2 b3 b4 b5 b6 b7 h = some (r, h')) : G sc y_M_read prog_10_method_89_code 11 (some .int) 5 113 138 [(0, .ref b0), (1, .int b1), (2, .int b2), (3, .int b3), (4, .int b4), (5, .int b5), (6, .int b6), (7, .int b7)] [] h (some (.int r)) h' := by
  unfold f_M_read_138 at hf
  refine g_iload (pc := 138) 5 d_M_read_138 rfl ?_
  refine g_ifne (pc := 140) 192 d_M_read_140 (by decide) (fun c51 => ?_) (fun c51 => ?_)
  · replace hf := (if_neg c51).symm.trans hf
    refine g_lv [0, 1, 2, 3, 4, 5, 6, 7] rfl ?_
    exact t_M_read_192 rec36 hrec36 _ _ _ _ _ _ _ _ _ _ _  hf
  · replace hf := (if_pos c51).symm.trans hf
    refine g_bipush (pc := 143) (40 : Int32) d_M_read_143 (by decide) ?_
    refine g_iload_n (pc := 145) 1 d_M_read_145 rfl rfl ?_
    refine g_imul (pc := 146) d_M_read_146 ?_
    refine g_iload_n (pc := 147) 3 d_M_read_147 rfl rfl ?_
    refine g_iadd (pc := 148) d_M_read_148 ?_
    refine g_iconst (pc := 149) (2 : Int32) d_M_read_149 (by decide) ?_
    refine g_iload (pc := 150) 7 d_M_read_150 rfl ?_
    refine g_imul (pc := 152) d_M_read_152 ?_
    refine g_iadd (pc := 153) d_M_read_153 ?_
    refine g_istore (pc := 154) [(8, .int ((((40 : Int32) * b1) + b3) + ((2 : Int32) * b7))), (0, .ref b0), (1, .int b1), (2, .int b2), (3, .int b3), (4, .int b4), (5, .int b5), (6, .int b6), (7, .int b7)] d_M_read_154 (Nat.le_of_ble_eq_true rfl) rfl ?_
    refine g_aload_n (pc := 156) 1 d_M_read_156 rfl rfl ?_
    refine g_aload_n (pc := 157) 1 d_M_read_157 rfl rfl ?_
    obtain ⟨x33, e34, hf⟩ := bd1_e hf
    refine g_get (pc := 158) (ci := 8) (kk := 37) d_M_read_158 rfl in_M (by decide) wd_975 (gR_spec e34) ?_
    refine g_iload (pc := 161) 0 d_M_read_161 rfl ?_
    obtain ⟨x35, e36, hf⟩ := bd1_e hf
    refine g_iald (pc := 163) d_M_read_163 e36 ?_
    refine g_aload_n (pc := 164) 1 d_M_read_164 rfl rfl ?_
    obtain ⟨x37, e38, hf⟩ := bd1_e hf
    refine g_get (pc := 165) (ci := 8) (kk := 37) d_M_read_165 rfl in_M (by decide) wd_975 (gR_spec e38) ?_
    refine g_iload (pc := 168) 0 d_M_read_168 rfl ?_
    refine g_iconst (pc := 170) (1 : Int32) d_M_read_170 (by decide) ?_
    refine g_iadd (pc := 171) d_M_read_171 ?_
    obtain ⟨x39, e40, hf⟩ := bd1_e hf
    refine g_iald (pc := 172) d_M_read_172 e40 ?_
    obtain ⟨u42, e41, hf⟩ := bd1_e hf
    obtain ⟨x45, h43, e44, hf⟩ := bd2_e hf
    refine g_callV (pc := 173) (ci := 8) [.int x35, .int x39] (site_of si_M_breaks (by decide) (by decide)) wd_1379 wd_1234 wd_1235 d_M_read_173 rfl e41 (Nat.le_of_ble_eq_true rfl) (fun z => absurd z (by decide)) (fun z => absurd z (by decide)) (fun z => absurd z (by decide)) (c_M_breaks e44) rfl ?_
    refine g_st [.int x45] rfl ?_
    refine g_ifge (pc := 176) 189 d_M_read_176 (by decide) (fun c50 => ?_) (fun c50 => ?_)
    · replace hf := (if_pos c50).symm.trans hf
      refine g_iinc (pc := 189) 7 (b6 + (1 : Int32)) [(6, .int (b6 + (1 : Int32))), (8, .int ((((40 : Int32) * b1) + b3) + ((2 : Int32) * b7))), (0, .ref b0), (1, .int b1), (2, .int b2), (3, .int b3), (4, .int b4), (5, .int b5), (7, .int b7)] d_M_read_189 rfl rfl (Nat.le_of_ble_eq_true rfl) rfl ?_
      refine g_lv [2, 3, 4, 5, 6, 7, 0, 8] rfl ?_
      exact t_M_read_192 rec36 hrec36 _ _ _ _ _ _ _ _ _ _ _  hf
    · replace hf := (if_neg c50).symm.trans hf
      refine g_aload_n (pc := 179) 1 d_M_read_179 rfl rfl ?_
      obtain ⟨u47, e46, hf⟩ := bd1_e hf
      obtain ⟨h48, e49, hf⟩ := bd1_e hf
      refine g_callV (pc := 180) (ci := 8) [] (site_of si_M_returns (by decide) (by decide)) wd_1315 wd_1317 wp_66 d_M_read_180 rfl e46 (Nat.le_of_ble_eq_true rfl) (fun z => absurd z (by decide)) (fun z => absurd z (by decide)) (fun z => absurd z (by decide)) (c_M_returns e49) rfl ?_
      refine g_st [] rfl ?_
      refine g_bipush (pc := 183) ((-20) : Int32) d_M_read_183 (by decide) ?_
      refine g_iload (pc := 185) 8 d_M_read_185 rfl ?_
      refine g_isub (pc := 187) d_M_read_187 ?_
      obtain ⟨rfl, rfl⟩ := ret2 hf
      exact g_iret (pc := 188) rfl d_M_read_188
def f_M_read_130 (rec36 : Nat → Int32 → Int32 → Int32 → Int32 → Int32 → Int32 → Int32 → mH → Option (Int32 × mH)) (rec51 : Nat → Int32 → Int32 → Int32 → Int32 → Int32 → Int32 → Int32 → Int32 → mH → Option (Int32 × mH)) (b0 : Nat) (b1 : Int32) (b2 : Int32) (b3 : Int32) (b4 : Int32) (b6 : Int32) (b7 : Int32) (b8 : Int32) (s0 : Int32) (h : mH) : Option (Int32 × mH) :=
  rec51 b0 b1 b2 b3 b4 s0 b6 b7 (b8 + (1 : Int32)) h
set_option maxRecDepth 20000 in
theorem t_M_read_130 {sc : Nat × (Nat → Int32)} (rec36 : Nat → Int32 → Int32 → Int32 → Int32 → Int32 → Int32 → Int32 → mH → Option (Int32 × mH)) (hrec36 : ∀ (b0 : Nat) (b1 : Int32) (b2 : Int32) (b3 : Int32) (b4 : Int32) (b5 : Int32) (b6 : Int32) (b7 : Int32) (h : mH) (r : Int32) (h' : mH), rec36 b0 b1 b2 b3 b4 b5 b6 b7 h = some (r, h') → G sc y_M_read prog_10_method_89_code 11 (some .int) 5 113 36 [(0, .ref b0), (1, .int b1), (2, .int b2), (3, .int b3), (4, .int b4), (5, .int b5), (6, .int b6), (7, .int b7)] [] h (some (.int r)) h') (rec51 : Nat → Int32 → Int32 → Int32 → Int32 → Int32 → Int32 → Int32 → Int32 → mH → Option (Int32 × mH)) (hrec51 : ∀ (b0 : Nat) (b1 : Int32) (b2 : Int32) (b3 : Int32) (b4 : Int32) (b5 : Int32) (b6 : Int32) (b7 : Int32) (b8 : Int32) (h : mH) (r : Int32) (h' : mH), rec51 b0 b1 b2 b3 b4 b5 b6 b7 b8 h = some (r, h') → G sc y_M_read prog_10_method_89_code 11 (some .int) 5 113 51 [(0, .ref b0), (1, .int b1), (2, .int b2), (3, .int b3), (4, .int b4), (5, .int b5), (6, .int b6), (7, .int b7), (8, .int b8)] [] h (some (.int r)) h') (b0 : Nat) (b1 : Int32) (b2 : Int32) (b3 : Int32) (b4 : Int32) (b6 : Int32) (b7 : Int32) (b8 : Int32) (s0 : Int32) (h : mH) (r : Int32) (h' : mH) (hf : f_M_read_130 rec36 rec51 b0 b1 b2 b3 b4 b6 b7 b8 s0 h = some (r, h')) : G sc y_M_read prog_10_method_89_code 11 (some .int) 5 113 130 [(0, .ref b0), (1, .int b1), (2, .int b2), (3, .int b3), (4, .int b4), (6, .int b6), (7, .int b7), (8, .int b8)] [.int s0] h (some (.int r)) h' := by
  unfold f_M_read_130 at hf
  refine g_istore (pc := 130) [(5, .int s0), (0, .ref b0), (1, .int b1), (2, .int b2), (3, .int b3), (4, .int b4), (6, .int b6), (7, .int b7), (8, .int b8)] d_M_read_130 (Nat.le_of_ble_eq_true rfl) rfl ?_
  refine g_iinc (pc := 132) 8 (b8 + (1 : Int32)) [(8, .int (b8 + (1 : Int32))), (5, .int s0), (0, .ref b0), (1, .int b1), (2, .int b2), (3, .int b3), (4, .int b4), (6, .int b6), (7, .int b7)] d_M_read_132 rfl rfl (Nat.le_of_ble_eq_true rfl) rfl ?_
  refine g_goto (pc := 135) 51 d_M_read_135 (by decide) ?_
  refine g_lv [2, 3, 4, 5, 6, 1, 7, 8, 0] rfl ?_
  exact hrec51 _ _ _ _ _ _ _ _ _ _ _ _  hf
def f_M_read_125 (rec36 : Nat → Int32 → Int32 → Int32 → Int32 → Int32 → Int32 → Int32 → mH → Option (Int32 × mH)) (rec51 : Nat → Int32 → Int32 → Int32 → Int32 → Int32 → Int32 → Int32 → Int32 → mH → Option (Int32 × mH)) (b0 : Nat) (b1 : Int32) (b2 : Int32) (b3 : Int32) (b4 : Int32) (b6 : Int32) (b7 : Int32) (b8 : Int32) (h : mH) : Option (Int32 × mH) :=
  f_M_read_130 rec36 rec51 b0 b1 b2 b3 b4 b6 b7 b8 (2 : Int32) h
set_option maxRecDepth 20000 in
theorem t_M_read_125 {sc : Nat × (Nat → Int32)} (rec36 : Nat → Int32 → Int32 → Int32 → Int32 → Int32 → Int32 → Int32 → mH → Option (Int32 × mH)) (hrec36 : ∀ (b0 : Nat) (b1 : Int32) (b2 : Int32) (b3 : Int32) (b4 : Int32) (b5 : Int32) (b6 : Int32) (b7 : Int32) (h : mH) (r : Int32) (h' : mH), rec36 b0 b1 b2 b3 b4 b5 b6 b7 h = some (r, h') → G sc y_M_read prog_10_method_89_code 11 (some .int) 5 113 36 [(0, .ref b0), (1, .int b1), (2, .int b2), (3, .int b3), (4, .int b4), (5, .int b5), (6, .int b6), (7, .int b7)] [] h (some (.int r)) h') (rec51 : Nat → Int32 → Int32 → Int32 → Int32 → Int32 → Int32 → Int32 → Int32 → mH → Option (Int32 × mH)) (hrec51 : ∀ (b0 : Nat) (b1 : Int32) (b2 : Int32) (b3 : Int32) (b4 : Int32) (b5 : Int32) (b6 : Int32) (b7 : Int32) (b8 : Int32) (h : mH) (r : Int32) (h' : mH), rec51 b0 b1 b2 b3 b4 b5 b6 b7 b8 h = some (r, h') → G sc y_M_read prog_10_method_89_code 11 (some .int) 5 113 51 [(0, .ref b0), (1, .int b1), (2, .int b2), (3, .int b3), (4, .int b4), (5, .int b5), (6, .int b6), (7, .int b7), (8, .int b8)] [] h (some (.int r)) h') (b0 : Nat) (b1 : Int32) (b2 : Int32) (b3 : Int32) (b4 : Int32) (b6 : Int32) (b7 : Int32) (b8 : Int32) (h : mH) (r : Int32) (h' : mH) (hf : f_M_read_125 rec36 rec51 b0 b1 b2 b3 b4 b6 b7 b8 h = some (r, h')) : G sc y_M_read prog_10_method_89_code 11 (some .int) 5 113 125 [(0, .ref b0), (1, .int b1), (2, .int b2), (3, .int b3), (4, .int b4), (6, .int b6), (7, .int b7), (8, .int b8)] [] h (some (.int r)) h' := by
  unfold f_M_read_125 at hf
  refine g_iconst (pc := 125) (2 : Int32) d_M_read_125 (by decide) ?_
  refine g_goto (pc := 126) 130 d_M_read_126 (by decide) ?_
  refine g_lv [0, 1, 2, 3, 4, 5, 6, 7] rfl ?_
  exact t_M_read_130 rec36 hrec36 rec51 hrec51 _ _ _ _ _ _ _ _ _ _ _ _  hf
def f_M_read_51b (rec36 : Nat → Int32 → Int32 → Int32 → Int32 → Int32 → Int32 → Int32 → mH → Option (Int32 × mH)) (rec51 : Nat → Int32 → Int32 → Int32 → Int32 → Int32 → Int32 → Int32 → Int32 → mH → Option (Int32 × mH)) (b0 : Nat) (b1 : Int32) (b2 : Int32) (b3 : Int32) (b4 : Int32) (b5 : Int32) (b6 : Int32) (b7 : Int32) (b8 : Int32) (h : mH) : Option (Int32 × mH) :=
  if (2 : Int32) ≤ b8 then
    f_M_read_138 rec36 b0 b1 b2 b3 b4 b5 b6 b7 h
  else
    if b5 = 0 then
      bd1 (gR h b0 8 35) fun x15 =>
      bd1 (aI h 0 x15 b1) fun x17 =>
      if x17 = ((-4) : Int32) then
        f_M_read_130 rec36 rec51 b0 b1 b2 b3 b4 b6 b7 b8 (1 : Int32) h
      else
        bd1 (gR h b0 8 35) fun x19 =>
        bd1 (aI h 0 x19 b1) fun x21 =>
        if x21 = b2 then
          if (lg_cmp ((b3.toInt64 + (((2 : Int32) * b7).toInt64)) + b8.toInt64) (0 : Int64)) < 0 then
            f_M_read_125 rec36 rec51 b0 b1 b2 b3 b4 b6 b7 b8 h
          else
            bd1 (gR h b0 8 36) fun x23 =>
            bd1 (aI h 0 x23 b1) fun x25 =>
            if (lg_cmp ((b3.toInt64 + (((2 : Int32) * b7).toInt64)) + b8.toInt64) x25.toInt64) < 0 then
              f_M_read_130 rec36 rec51 b0 b1 b2 b3 b4 b6 b7 b8 (0 : Int32) h
            else
              f_M_read_125 rec36 rec51 b0 b1 b2 b3 b4 b6 b7 b8 h
        else
          f_M_read_130 rec36 rec51 b0 b1 b2 b3 b4 b6 b7 b8 (3 : Int32) h
    else
      f_M_read_138 rec36 b0 b1 b2 b3 b4 b5 b6 b7 h
set_option maxRecDepth 20000 in
theorem t_M_read_51b {sc : Nat × (Nat → Int32)} (rec36 : Nat → Int32 → Int32 → Int32 → Int32 → Int32 → Int32 → Int32 → mH → Option (Int32 × mH)) (hrec36 : ∀ (b0 : Nat) (b1 : Int32) (b2 : Int32) (b3 : Int32) (b4 : Int32) (b5 : Int32) (b6 : Int32) (b7 : Int32) (h : mH) (r : Int32) (h' : mH), rec36 b0 b1 b2 b3 b4 b5 b6 b7 h = some (r, h') → G sc y_M_read prog_10_method_89_code 11 (some .int) 5 113 36 [(0, .ref b0), (1, .int b1), (2, .int b2), (3, .int b3), (4, .int b4), (5, .int b5), (6, .int b6), (7, .int b7)] [] h (some (.int r)) h') (rec51 : Nat → Int32 → Int32 → Int32 → Int32 → Int32 → Int32 → Int32 → Int32 → mH → Option (Int32 × mH)) (hrec51 : ∀ (b0 : Nat) (b1 : Int32) (b2 : Int32) (b3 : Int32) (b4 : Int32) (b5 : Int32) (b6 : Int32) (b7 : Int32) (b8 : Int32) (h : mH) (r : Int32) (h' : mH), rec51 b0 b1 b2 b3 b4 b5 b6 b7 b8 h = some (r, h') → G sc y_M_read prog_10_method_89_code 11 (some .int) 5 113 51 [(0, .ref b0), (1, .int b1), (2, .int b2), (3, .int b3), (4, .int b4), (5, .int b5), (6, .int b6), (7, .int b7), (8, .int b8)] [] h (some (.int r)) h') (b0 : Nat) (b1 : Int32) (b2 : Int32) (b3 : Int32) (b4 : Int32) (b5 : Int32) (b6 : Int32) (b7 : Int32) (b8 : Int32) (h : mH) (r : Int32) (h' : mH) (hf : f_M_read_51b rec36 rec51 b0 b1 b2 b3 b4 b5 b6 b7 b8 h = some (r, h')) : G sc y_M_read prog_10_method_89_code 11 (some .int) 5 113 51 [(0, .ref b0), (1, .int b1), (2, .int b2), (3, .int b3), (4, .int b4), (5, .int b5), (6, .int b6), (7, .int b7), (8, .int b8)] [] h (some (.int r)) h' := by
  unfold f_M_read_51b at hf
  refine g_iload (pc := 51) 8 d_M_read_51 rfl ?_
  refine g_iconst (pc := 53) (2 : Int32) d_M_read_53 (by decide) ?_
  refine g_icmpge (pc := 54) 138 d_M_read_54 (by decide) (fun c32 => ?_) (fun c32 => ?_)
  · replace hf := (if_pos c32).symm.trans hf
    refine g_lv [0, 1, 2, 3, 4, 5, 6, 7] rfl ?_
    exact t_M_read_138 rec36 hrec36 _ _ _ _ _ _ _ _ _ _ _  hf
  · replace hf := (if_neg c32).symm.trans hf
    refine g_iload (pc := 57) 5 d_M_read_57 rfl ?_
    refine g_ifne (pc := 59) 138 d_M_read_59 (by decide) (fun c31 => ?_) (fun c31 => ?_)
    · replace hf := (if_neg c31).symm.trans hf
      refine g_lv [0, 1, 2, 3, 4, 5, 6, 7] rfl ?_
      exact t_M_read_138 rec36 hrec36 _ _ _ _ _ _ _ _ _ _ _  hf
    · replace hf := (if_pos c31).symm.trans hf
      refine g_iload_n (pc := 62) 3 d_M_read_62 rfl rfl ?_
      refine g_i2l (pc := 63) d_M_read_63 ?_
      refine g_iconst (pc := 64) (2 : Int32) d_M_read_64 (by decide) ?_
      refine g_iload (pc := 65) 7 d_M_read_65 rfl ?_
      refine g_imul (pc := 67) d_M_read_67 ?_
      refine g_i2l (pc := 68) d_M_read_68 ?_
      refine g_ladd (pc := 69) d_M_read_69 ?_
      refine g_iload (pc := 70) 8 d_M_read_70 rfl ?_
      refine g_i2l (pc := 72) d_M_read_72 ?_
      refine g_ladd (pc := 73) d_M_read_73 ?_
      refine g_lstore (pc := 74) [(9, .long ((b3.toInt64 + (((2 : Int32) * b7).toInt64)) + b8.toInt64)), (0, .ref b0), (1, .int b1), (2, .int b2), (3, .int b3), (4, .int b4), (5, .int b5), (6, .int b6), (7, .int b7), (8, .int b8)] d_M_read_74 (Nat.le_of_ble_eq_true rfl) rfl ?_
      refine g_aload_n (pc := 76) 1 d_M_read_76 rfl rfl ?_
      obtain ⟨x15, e16, hf⟩ := bd1_e hf
      refine g_get (pc := 77) (ci := 8) (kk := 35) d_M_read_77 rfl in_M (by decide) wd_973 (gR_spec e16) ?_
      refine g_iload_n (pc := 80) 2 d_M_read_80 rfl rfl ?_
      obtain ⟨x17, e18, hf⟩ := bd1_e hf
      refine g_iald (pc := 81) d_M_read_81 e18 ?_
      refine g_bipush (pc := 82) ((-4) : Int32) d_M_read_82 (by decide) ?_
      refine g_icmpne (pc := 84) 91 d_M_read_84 (by decide) (fun c30 => ?_) (fun c30 => ?_)
      · replace hf := (if_neg c30).symm.trans hf
        refine g_aload_n (pc := 91) 1 d_M_read_91 rfl rfl ?_
        obtain ⟨x19, e20, hf⟩ := bd1_e hf
        refine g_get (pc := 92) (ci := 8) (kk := 35) d_M_read_92 rfl in_M (by decide) wd_973 (gR_spec e20) ?_
        refine g_iload_n (pc := 95) 2 d_M_read_95 rfl rfl ?_
        obtain ⟨x21, e22, hf⟩ := bd1_e hf
        refine g_iald (pc := 96) d_M_read_96 e22 ?_
        refine g_iload_n (pc := 97) 3 d_M_read_97 rfl rfl ?_
        refine g_icmpeq (pc := 98) 105 d_M_read_98 (by decide) (fun c29 => ?_) (fun c29 => ?_)
        · replace hf := (if_pos c29).symm.trans hf
          refine g_lload (pc := 105) 0 d_M_read_105 rfl ?_
          refine g_lconst (pc := 107) (0 : Int64) d_M_read_107 (by decide) ?_
          refine g_lcmp (pc := 108) d_M_read_108 ?_
          refine g_iflt (pc := 109) 125 d_M_read_109 (by decide) (fun c28 => ?_) (fun c28 => ?_)
          · replace hf := (if_pos c28).symm.trans hf
            refine g_lv [1, 2, 3, 4, 5, 7, 8, 9] rfl ?_
            exact t_M_read_125 rec36 hrec36 rec51 hrec51 _ _ _ _ _ _ _ _ _ _ _  hf
          · replace hf := (if_neg c28).symm.trans hf
            refine g_lload (pc := 112) 0 d_M_read_112 rfl ?_
            refine g_aload_n (pc := 114) 1 d_M_read_114 rfl rfl ?_
            obtain ⟨x23, e24, hf⟩ := bd1_e hf
            refine g_get (pc := 115) (ci := 8) (kk := 36) d_M_read_115 rfl in_M (by decide) wd_974 (gR_spec e24) ?_
            refine g_iload_n (pc := 118) 2 d_M_read_118 rfl rfl ?_
            obtain ⟨x25, e26, hf⟩ := bd1_e hf
            refine g_iald (pc := 119) d_M_read_119 e26 ?_
            refine g_i2l (pc := 120) d_M_read_120 ?_
            refine g_lcmp (pc := 121) d_M_read_121 ?_
            refine g_iflt (pc := 122) 129 d_M_read_122 (by decide) (fun c27 => ?_) (fun c27 => ?_)
            · replace hf := (if_pos c27).symm.trans hf
              refine g_iconst (pc := 129) (0 : Int32) d_M_read_129 (by decide) ?_
              refine g_lv [1, 2, 3, 4, 5, 7, 8, 9] rfl ?_
              exact t_M_read_130 rec36 hrec36 rec51 hrec51 _ _ _ _ _ _ _ _ _ _ _ _  hf
            · replace hf := (if_neg c27).symm.trans hf
              refine g_lv [1, 2, 3, 4, 5, 7, 8, 9] rfl ?_
              exact t_M_read_125 rec36 hrec36 rec51 hrec51 _ _ _ _ _ _ _ _ _ _ _  hf
        · replace hf := (if_neg c29).symm.trans hf
          refine g_iconst (pc := 101) (3 : Int32) d_M_read_101 (by decide) ?_
          refine g_goto (pc := 102) 130 d_M_read_102 (by decide) ?_
          refine g_lv [1, 2, 3, 4, 5, 7, 8, 9] rfl ?_
          exact t_M_read_130 rec36 hrec36 rec51 hrec51 _ _ _ _ _ _ _ _ _ _ _ _  hf
      · replace hf := (if_pos c30).symm.trans hf
        refine g_iconst (pc := 87) (1 : Int32) d_M_read_87 (by decide) ?_
        refine g_goto (pc := 88) 130 d_M_read_88 (by decide) ?_
        refine g_lv [1, 2, 3, 4, 5, 7, 8, 9] rfl ?_
        exact t_M_read_130 rec36 hrec36 rec51 hrec51 _ _ _ _ _ _ _ _ _ _ _ _  hf
def f_M_read_51 (rec36 : Nat → Int32 → Int32 → Int32 → Int32 → Int32 → Int32 → Int32 → mH → Option (Int32 × mH)) : Nat → Nat → Int32 → Int32 → Int32 → Int32 → Int32 → Int32 → Int32 → Int32 → mH → Option (Int32 × mH)
  | 0 => fun _ _ _ _ _ _ _ _ _ _ => none
  | n + 1 => f_M_read_51b rec36 (f_M_read_51 rec36 n)
theorem t_M_read_51 {sc : Nat × (Nat → Int32)} (rec36 : Nat → Int32 → Int32 → Int32 → Int32 → Int32 → Int32 → Int32 → mH → Option (Int32 × mH)) (hrec36 : ∀ (b0 : Nat) (b1 : Int32) (b2 : Int32) (b3 : Int32) (b4 : Int32) (b5 : Int32) (b6 : Int32) (b7 : Int32) (h : mH) (r : Int32) (h' : mH), rec36 b0 b1 b2 b3 b4 b5 b6 b7 h = some (r, h') → G sc y_M_read prog_10_method_89_code 11 (some .int) 5 113 36 [(0, .ref b0), (1, .int b1), (2, .int b2), (3, .int b3), (4, .int b4), (5, .int b5), (6, .int b6), (7, .int b7)] [] h (some (.int r)) h') : ∀ (n : Nat) (b0 : Nat) (b1 : Int32) (b2 : Int32) (b3 : Int32) (b4 : Int32) (b5 : Int32) (b6 : Int32) (b7 : Int32) (b8 : Int32) (h : mH) (r : Int32) (h' : mH) (hf : f_M_read_51 rec36 n b0 b1 b2 b3 b4 b5 b6 b7 b8 h = some (r, h')), G sc y_M_read prog_10_method_89_code 11 (some .int) 5 113 51 [(0, .ref b0), (1, .int b1), (2, .int b2), (3, .int b3), (4, .int b4), (5, .int b5), (6, .int b6), (7, .int b7), (8, .int b8)] [] h (some (.int r)) h'
  | 0, _, _, _, _, _, _, _, _, _, _, _, _, hf => by cases hf
  | n + 1, _, _, _, _, _, _, _, _, _, _, _, _, hf => t_M_read_51b rec36 hrec36 (f_M_read_51 rec36 n) (t_M_read_51 rec36 hrec36 n) _ _ _ _ _ _ _ _ _ _ _ _ hf
def f_M_read_36b (rec36 : Nat → Int32 → Int32 → Int32 → Int32 → Int32 → Int32 → Int32 → mH → Option (Int32 × mH)) (b0 : Nat) (b1 : Int32) (b2 : Int32) (b3 : Int32) (b4 : Int32) (b5 : Int32) (b6 : Int32) (b7 : Int32) (h : mH) : Option (Int32 × mH) :=
  if b4 ≤ b7 then
    f_M_read_198  b0 b5 b6 h
  else
    if b5 = 0 then
      f_M_read_51 rec36 FU b0 b1 b2 b3 b4 b5 b6 b7 (0 : Int32) h
    else
      f_M_read_198  b0 b5 b6 h
set_option maxRecDepth 20000 in
theorem t_M_read_36b {sc : Nat × (Nat → Int32)} (rec36 : Nat → Int32 → Int32 → Int32 → Int32 → Int32 → Int32 → Int32 → mH → Option (Int32 × mH)) (hrec36 : ∀ (b0 : Nat) (b1 : Int32) (b2 : Int32) (b3 : Int32) (b4 : Int32) (b5 : Int32) (b6 : Int32) (b7 : Int32) (h : mH) (r : Int32) (h' : mH), rec36 b0 b1 b2 b3 b4 b5 b6 b7 h = some (r, h') → G sc y_M_read prog_10_method_89_code 11 (some .int) 5 113 36 [(0, .ref b0), (1, .int b1), (2, .int b2), (3, .int b3), (4, .int b4), (5, .int b5), (6, .int b6), (7, .int b7)] [] h (some (.int r)) h') (b0 : Nat) (b1 : Int32) (b2 : Int32) (b3 : Int32) (b4 : Int32) (b5 : Int32) (b6 : Int32) (b7 : Int32) (h : mH) (r : Int32) (h' : mH) (hf : f_M_read_36b rec36 b0 b1 b2 b3 b4 b5 b6 b7 h = some (r, h')) : G sc y_M_read prog_10_method_89_code 11 (some .int) 5 113 36 [(0, .ref b0), (1, .int b1), (2, .int b2), (3, .int b3), (4, .int b4), (5, .int b5), (6, .int b6), (7, .int b7)] [] h (some (.int r)) h' := by
  unfold f_M_read_36b at hf
  refine g_iload (pc := 36) 7 d_M_read_36 rfl ?_
  refine g_iload (pc := 38) 4 d_M_read_38 rfl ?_
  refine g_icmpge (pc := 40) 198 d_M_read_40 (by decide) (fun c14 => ?_) (fun c14 => ?_)
  · replace hf := (if_pos c14).symm.trans hf
    refine g_lv [0, 5, 6] rfl ?_
    exact t_M_read_198  _ _ _ _ _ _  hf
  · replace hf := (if_neg c14).symm.trans hf
    refine g_iload (pc := 43) 5 d_M_read_43 rfl ?_
    refine g_ifne (pc := 45) 198 d_M_read_45 (by decide) (fun c13 => ?_) (fun c13 => ?_)
    · replace hf := (if_neg c13).symm.trans hf
      refine g_lv [0, 5, 6] rfl ?_
      exact t_M_read_198  _ _ _ _ _ _  hf
    · replace hf := (if_pos c13).symm.trans hf
      refine g_iconst (pc := 48) (0 : Int32) d_M_read_48 (by decide) ?_
      refine g_istore (pc := 49) [(8, .int (0 : Int32)), (0, .ref b0), (1, .int b1), (2, .int b2), (3, .int b3), (4, .int b4), (5, .int b5), (6, .int b6), (7, .int b7)] d_M_read_49 (Nat.le_of_ble_eq_true rfl) rfl ?_
      refine g_lv [1, 2, 3, 4, 5, 6, 7, 8, 0] rfl ?_
      exact t_M_read_51 rec36 hrec36 FU _ _ _ _ _ _ _ _ _ _ _ _  hf
def f_M_read_36  : Nat → Nat → Int32 → Int32 → Int32 → Int32 → Int32 → Int32 → Int32 → mH → Option (Int32 × mH)
  | 0 => fun _ _ _ _ _ _ _ _ _ => none
  | n + 1 => f_M_read_36b  (f_M_read_36  n)
theorem t_M_read_36 {sc : Nat × (Nat → Int32)}  : ∀ (n : Nat) (b0 : Nat) (b1 : Int32) (b2 : Int32) (b3 : Int32) (b4 : Int32) (b5 : Int32) (b6 : Int32) (b7 : Int32) (h : mH) (r : Int32) (h' : mH) (hf : f_M_read_36  n b0 b1 b2 b3 b4 b5 b6 b7 h = some (r, h')), G sc y_M_read prog_10_method_89_code 11 (some .int) 5 113 36 [(0, .ref b0), (1, .int b1), (2, .int b2), (3, .int b3), (4, .int b4), (5, .int b5), (6, .int b6), (7, .int b7)] [] h (some (.int r)) h'
  | 0, _, _, _, _, _, _, _, _, _, _, _, hf => by cases hf
  | n + 1, _, _, _, _, _, _, _, _, _, _, _, hf => t_M_read_36b  (f_M_read_36  n) (t_M_read_36  n) _ _ _ _ _ _ _ _ _ _ _ hf
def f_M_read_21   (h : mH) : Option (Int32 × mH) :=
  some (((-1) : Int32), h)
set_option maxRecDepth 20000 in
theorem t_M_read_21 {sc : Nat × (Nat → Int32)}   (h : mH) (r : Int32) (h' : mH) (hf : f_M_read_21   h = some (r, h')) : G sc y_M_read prog_10_method_89_code 11 (some .int) 5 113 21 [] [] h (some (.int r)) h' := by
  unfold f_M_read_21 at hf
  refine g_iconst (pc := 21) ((-1) : Int32) d_M_read_21 (by decide) ?_
  obtain ⟨rfl, rfl⟩ := ret2 hf
  exact g_iret (pc := 22) rfl d_M_read_22
def f_M_read_0  (a0 : Nat) (a1 : Int32) (a2 : Int32) (a3 : Int32) (a4 : Int32) (h : mH) : Option (Int32 × mH) :=
  bd2 (f_M_isSheet a1 a2 h) fun x3 h1 =>
  if x3 = 0 then
    f_M_read_21  h1
  else
    bd2 (f_M_in a4.toInt64 (0 : Int64) (20 : Int64) h1) fun x6 h4 =>
    if x6 = 0 then
      f_M_read_21  h4
    else
      bd1 (kC h4 a0 8) fun _ =>
      bd1 (f_M_saves a0 h4) fun h9 =>
      f_M_read_36  FU a0 a1 a2 a3 a4 (0 : Int32) (0 : Int32) (0 : Int32) h9
set_option maxRecDepth 20000 in
theorem t_M_read_0 {sc : Nat × (Nat → Int32)}  (a0 : Nat) (a1 : Int32) (a2 : Int32) (a3 : Int32) (a4 : Int32) (h : mH) (r : Int32) (h' : mH) (hf : f_M_read_0  a0 a1 a2 a3 a4 h = some (r, h')) : G sc y_M_read prog_10_method_89_code 11 (some .int) 5 113 0 [(0, .ref a0), (1, .int a1), (2, .int a2), (3, .int a3), (4, .int a4)] [] h (some (.int r)) h' := by
  unfold f_M_read_0 at hf
  refine g_iload_n (pc := 0) 1 d_M_read_0 rfl rfl ?_
  refine g_iload_n (pc := 1) 2 d_M_read_1 rfl rfl ?_
  obtain ⟨x3, h1, e2, hf⟩ := bd2_e hf
  refine g_callS (pc := 2) [.int a1, .int a2] (site_of si_M_isSheet (by decide) (by decide)) wd_1396 wd_1397 d_M_read_2 (Nat.le_of_ble_eq_true rfl) (fun z => absurd z (by decide)) (fun z => absurd z (by decide)) (fun z => absurd z (by decide)) (c_M_isSheet e2) rfl ?_
  refine g_st [.int x3] rfl ?_
  refine g_ifeq (pc := 5) 21 d_M_read_5 (by decide) (fun c12 => ?_) (fun c12 => ?_)
  · replace hf := (if_pos c12).symm.trans hf
    refine g_lv [] rfl ?_
    exact t_M_read_21  _ _ _  hf
  · replace hf := (if_neg c12).symm.trans hf
    refine g_iload (pc := 8) 4 d_M_read_8 rfl ?_
    refine g_i2l (pc := 10) d_M_read_10 ?_
    refine g_lconst (pc := 11) (0 : Int64) d_M_read_11 (by decide) ?_
    refine g_ldc2 (pc := 12) (20 : Int64) d_M_read_12 wd_1332 ?_
    obtain ⟨x6, h4, e5, hf⟩ := bd2_e hf
    refine g_callS (pc := 15) [.long a4.toInt64, .long (0 : Int64), .long (20 : Int64)] (site_of si_M_in (by decide) (by decide)) wd_1061 wd_1062 d_M_read_15 (Nat.le_of_ble_eq_true rfl) (fun z => absurd z (by decide)) (fun z => absurd z (by decide)) (fun z => absurd z (by decide)) (c_M_in e5) rfl ?_
    refine g_st [.int x6] rfl ?_
    refine g_ifne (pc := 18) 23 d_M_read_18 (by decide) (fun c11 => ?_) (fun c11 => ?_)
    · replace hf := (if_neg c11).symm.trans hf
      refine g_aload_n (pc := 23) 0 d_M_read_23 rfl rfl ?_
      obtain ⟨u8, e7, hf⟩ := bd1_e hf
      obtain ⟨h9, e10, hf⟩ := bd1_e hf
      refine g_callV (pc := 24) (ci := 8) [] (site_of si_M_saves (by decide) (by decide)) wd_1307 wd_1309 wp_64 d_M_read_24 rfl e7 (Nat.le_of_ble_eq_true rfl) (fun z => absurd z (by decide)) (fun z => absurd z (by decide)) (fun z => absurd z (by decide)) (c_M_saves e10) rfl ?_
      refine g_st [] rfl ?_
      refine g_iconst (pc := 27) (0 : Int32) d_M_read_27 (by decide) ?_
      refine g_istore (pc := 28) [(5, .int (0 : Int32)), (0, .ref a0), (1, .int a1), (2, .int a2), (3, .int a3), (4, .int a4)] d_M_read_28 (Nat.le_of_ble_eq_true rfl) rfl ?_
      refine g_iconst (pc := 30) (0 : Int32) d_M_read_30 (by decide) ?_
      refine g_istore (pc := 31) [(6, .int (0 : Int32)), (5, .int (0 : Int32)), (0, .ref a0), (1, .int a1), (2, .int a2), (3, .int a3), (4, .int a4)] d_M_read_31 (Nat.le_of_ble_eq_true rfl) rfl ?_
      refine g_iconst (pc := 33) (0 : Int32) d_M_read_33 (by decide) ?_
      refine g_istore (pc := 34) [(7, .int (0 : Int32)), (6, .int (0 : Int32)), (5, .int (0 : Int32)), (0, .ref a0), (1, .int a1), (2, .int a2), (3, .int a3), (4, .int a4)] d_M_read_34 (Nat.le_of_ble_eq_true rfl) rfl ?_
      refine g_lv [3, 4, 5, 6, 7, 2, 1, 0] rfl ?_
      exact t_M_read_36  FU _ _ _ _ _ _ _ _ _ _ _  hf
    · replace hf := (if_pos c11).symm.trans hf
      refine g_lv [] rfl ?_
      exact t_M_read_21  _ _ _  hf
def f_M_read (a0 : Nat) (a1 : Int32) (a2 : Int32) (a3 : Int32) (a4 : Int32) (h : mH) : Option (Int32 × mH) := f_M_read_0 a0 a1 a2 a3 a4 h
theorem c_M_read {sc : Nat × (Nat → Int32)} {a0 : Nat} {a1 : Int32} {a2 : Int32} {a3 : Int32} {a4 : Int32} {h : mH} {r : Int32} {h' : mH} (hf : f_M_read a0 a1 a2 a3 a4 h = some (r, h')) : MM sc y_M_read prog_10_method_89_code 11 (some .int) 5 113 [.ref a0, .int a1, .int a2, .int a3, .int a4] h (some (.int r)) h' :=
  mm_of_G (by decide) (Nat.le_of_ble_eq_true rfl) (t_M_read_0 _ _ _ _ _ _ _ _ hf)
/-! M torn ()I -/
set_option maxRecDepth 100000 in
theorem dd_M_torn_0 : (decode prog_10_method_90_code 0 = .ok (.aload_n 0, 1)) ∧ (decode prog_10_method_90_code 1 = .ok (.getfield 332, 3)) ∧ (decode prog_10_method_90_code 4 = .ok (.ireturn, 1)) := by
  have h : List.drop 0 prog_10_method_90_code.data.toList = 0x2a :: _ := rfl
  refine ⟨zq_k_n 42 h rfl (zq_o_42 _), ?_⟩
  replace h := zq_nx1 (q := 1) h rfl
  refine ⟨zq_k_u2 180 (fun z => .getfield z) 332 h rfl (zq_o_180 _) (by decide +kernel), ?_⟩
  replace h := zq_nx3 (q := 4) h rfl
  exact zq_k_n 172 h rfl (zq_o_172 _)
theorem d_M_torn_0 : decode prog_10_method_90_code 0 = .ok (.aload_n 0, 1) := dd_M_torn_0.1
theorem d_M_torn_1 : decode prog_10_method_90_code 1 = .ok (.getfield 332, 3) := dd_M_torn_0.2.1
theorem d_M_torn_4 : decode prog_10_method_90_code 4 = .ok (.ireturn, 1) := dd_M_torn_0.2.2
def f_M_torn_0  (a0 : Nat) (h : mH) : Option (Int32 × mH) :=
  bd1 (gI h a0 8 38) fun x1 =>
  some (x1, h)
set_option maxRecDepth 20000 in
theorem t_M_torn_0 {sc : Nat × (Nat → Int32)}  (a0 : Nat) (h : mH) (r : Int32) (h' : mH) (hf : f_M_torn_0  a0 h = some (r, h')) : G sc y_M_torn prog_10_method_90_code 1 (some .int) 0 0 0 [(0, .ref a0)] [] h (some (.int r)) h' := by
  unfold f_M_torn_0 at hf
  refine g_aload_n (pc := 0) 0 d_M_torn_0 rfl rfl ?_
  obtain ⟨x1, e2, hf⟩ := bd1_e hf
  refine g_get (pc := 1) (ci := 8) (kk := 38) d_M_torn_1 rfl in_M (by decide) wd_976 (gI_spec e2) ?_
  obtain ⟨rfl, rfl⟩ := ret2 hf
  exact g_iret (pc := 4) rfl d_M_torn_4
def f_M_torn (a0 : Nat) (h : mH) : Option (Int32 × mH) := f_M_torn_0 a0 h
theorem c_M_torn {sc : Nat × (Nat → Int32)} {a0 : Nat} {h : mH} {r : Int32} {h' : mH} (hf : f_M_torn a0 h = some (r, h')) : MM sc y_M_torn prog_10_method_90_code 1 (some .int) 0 0 [.ref a0] h (some (.int r)) h' :=
  mm_of_G (by decide) (Nat.le_of_ble_eq_true rfl) (t_M_torn_0 _ _ _ _ hf)
/-! M count (I)I -/
set_option maxRecDepth 100000 in
theorem dd_M_count_0 : (decode prog_10_method_91_code 0 = .ok (.iconst 0, 1)) ∧ (decode prog_10_method_91_code 1 = .ok (.istore_n 2, 1)) ∧ (decode prog_10_method_91_code 2 = .ok (.iconst 0, 1)) ∧ (decode prog_10_method_91_code 3 = .ok (.istore_n 3, 1)) ∧ (decode prog_10_method_91_code 4 = .ok (.iconst 0, 1)) ∧ (decode prog_10_method_91_code 5 = .ok (.istore 4, 2)) ∧ (decode prog_10_method_91_code 7 = .ok (.iconst 0, 1)) ∧ (decode prog_10_method_91_code 8 = .ok (.istore 5, 2)) ∧ (decode prog_10_method_91_code 10 = .ok (.iload 5, 2)) ∧ (decode prog_10_method_91_code 12 = .ok (.aload_n 0, 1)) ∧ (decode prog_10_method_91_code 13 = .ok (.getfield 109, 3)) ∧ (decode prog_10_method_91_code 16 = .ok (.if_icmp .ge 31, 3)) ∧ (decode prog_10_method_91_code 19 = .ok (.iload_n 2, 1)) ∧ (decode prog_10_method_91_code 20 = .ok (.aload_n 0, 1)) ∧ (decode prog_10_method_91_code 21 = .ok (.iload 5, 2)) ∧ (decode prog_10_method_91_code 23 = .ok (.invokevirtual 195, 3)) ∧ (decode prog_10_method_91_code 26 = .ok (.iadd, 1)) ∧ (decode prog_10_method_91_code 27 = .ok (.istore_n 2, 1)) ∧ (decode prog_10_method_91_code 28 = .ok (.iload_n 3, 1)) ∧ (decode prog_10_method_91_code 29 = .ok (.aload_n 0, 1)) ∧ (decode prog_10_method_91_code 30 = .ok (.getfield 7, 3)) ∧ (decode prog_10_method_91_code 33 = .ok (.bipush 15, 2)) ∧ (decode prog_10_method_91_code 35 = .ok (.iload 5, 2)) ∧ (decode prog_10_method_91_code 37 = .ok (.iadd, 1)) := by
  have h : List.drop 0 prog_10_method_91_code.data.toList = 0x03 :: _ := rfl
  refine ⟨zq_k_n 3 h rfl (zq_o_3 _), ?_⟩
  replace h := zq_nx1 (q := 1) h rfl
  refine ⟨zq_k_n 61 h rfl (zq_o_61 _), ?_⟩
  replace h := zq_nx1 (q := 2) h rfl
  refine ⟨zq_k_n 3 h rfl (zq_o_3 _), ?_⟩
  replace h := zq_nx1 (q := 3) h rfl
  refine ⟨zq_k_n 62 h rfl (zq_o_62 _), ?_⟩
  replace h := zq_nx1 (q := 4) h rfl
  refine ⟨zq_k_n 3 h rfl (zq_o_3 _), ?_⟩
  replace h := zq_nx1 (q := 5) h rfl
  refine ⟨zq_k_u1 54 (fun z => .istore z) 4 h rfl (zq_o_54 _) (by decide +kernel), ?_⟩
  replace h := zq_nx2 (q := 7) h rfl
  refine ⟨zq_k_n 3 h rfl (zq_o_3 _), ?_⟩
  replace h := zq_nx1 (q := 8) h rfl
  refine ⟨zq_k_u1 54 (fun z => .istore z) 5 h rfl (zq_o_54 _) (by decide +kernel), ?_⟩
  replace h := zq_nx2 (q := 10) h rfl
  refine ⟨zq_k_u1 21 (fun z => .iload z) 5 h rfl (zq_o_21 _) (by decide +kernel), ?_⟩
  replace h := zq_nx2 (q := 12) h rfl
  refine ⟨zq_k_n 42 h rfl (zq_o_42 _), ?_⟩
  replace h := zq_nx1 (q := 13) h rfl
  refine ⟨zq_k_u2 180 (fun z => .getfield z) 109 h rfl (zq_o_180 _) (by decide +kernel), ?_⟩
  replace h := zq_nx3 (q := 16) h rfl
  refine ⟨zq_k_s2 162 (fun z => .if_icmp .ge z) 31 h rfl (zq_o_162 _) (by decide +kernel), ?_⟩
  replace h := zq_nx3 (q := 19) h rfl
  refine ⟨zq_k_n 28 h rfl (zq_o_28 _), ?_⟩
  replace h := zq_nx1 (q := 20) h rfl
  refine ⟨zq_k_n 42 h rfl (zq_o_42 _), ?_⟩
  replace h := zq_nx1 (q := 21) h rfl
  refine ⟨zq_k_u1 21 (fun z => .iload z) 5 h rfl (zq_o_21 _) (by decide +kernel), ?_⟩
  replace h := zq_nx2 (q := 23) h rfl
  refine ⟨zq_k_u2 182 (fun z => .invokevirtual z) 195 h rfl (zq_o_182 _) (by decide +kernel), ?_⟩
  replace h := zq_nx3 (q := 26) h rfl
  refine ⟨zq_k_n 96 h rfl (zq_o_96 _), ?_⟩
  replace h := zq_nx1 (q := 27) h rfl
  refine ⟨zq_k_n 61 h rfl (zq_o_61 _), ?_⟩
  replace h := zq_nx1 (q := 28) h rfl
  refine ⟨zq_k_n 29 h rfl (zq_o_29 _), ?_⟩
  replace h := zq_nx1 (q := 29) h rfl
  refine ⟨zq_k_n 42 h rfl (zq_o_42 _), ?_⟩
  replace h := zq_nx1 (q := 30) h rfl
  refine ⟨zq_k_u2 180 (fun z => .getfield z) 7 h rfl (zq_o_180 _) (by decide +kernel), ?_⟩
  replace h := zq_nx3 (q := 33) h rfl
  refine ⟨zq_k_s1 16 (fun z => .bipush z) 15 h rfl (zq_o_16 _) (by decide +kernel), ?_⟩
  replace h := zq_nx2 (q := 35) h rfl
  refine ⟨zq_k_u1 21 (fun z => .iload z) 5 h rfl (zq_o_21 _) (by decide +kernel), ?_⟩
  replace h := zq_nx2 (q := 37) h rfl
  exact zq_k_n 96 h rfl (zq_o_96 _)
theorem d_M_count_0 : decode prog_10_method_91_code 0 = .ok (.iconst 0, 1) := dd_M_count_0.1
theorem d_M_count_1 : decode prog_10_method_91_code 1 = .ok (.istore_n 2, 1) := dd_M_count_0.2.1
theorem d_M_count_2 : decode prog_10_method_91_code 2 = .ok (.iconst 0, 1) := dd_M_count_0.2.2.1
theorem d_M_count_3 : decode prog_10_method_91_code 3 = .ok (.istore_n 3, 1) := dd_M_count_0.2.2.2.1
theorem d_M_count_4 : decode prog_10_method_91_code 4 = .ok (.iconst 0, 1) := dd_M_count_0.2.2.2.2.1
theorem d_M_count_5 : decode prog_10_method_91_code 5 = .ok (.istore 4, 2) := dd_M_count_0.2.2.2.2.2.1
theorem d_M_count_7 : decode prog_10_method_91_code 7 = .ok (.iconst 0, 1) := dd_M_count_0.2.2.2.2.2.2.1
theorem d_M_count_8 : decode prog_10_method_91_code 8 = .ok (.istore 5, 2) := dd_M_count_0.2.2.2.2.2.2.2.1
theorem d_M_count_10 : decode prog_10_method_91_code 10 = .ok (.iload 5, 2) := dd_M_count_0.2.2.2.2.2.2.2.2.1
theorem d_M_count_12 : decode prog_10_method_91_code 12 = .ok (.aload_n 0, 1) := dd_M_count_0.2.2.2.2.2.2.2.2.2.1
theorem d_M_count_13 : decode prog_10_method_91_code 13 = .ok (.getfield 109, 3) := dd_M_count_0.2.2.2.2.2.2.2.2.2.2.1
theorem d_M_count_16 : decode prog_10_method_91_code 16 = .ok (.if_icmp .ge 31, 3) := dd_M_count_0.2.2.2.2.2.2.2.2.2.2.2.1
theorem d_M_count_19 : decode prog_10_method_91_code 19 = .ok (.iload_n 2, 1) := dd_M_count_0.2.2.2.2.2.2.2.2.2.2.2.2.1
theorem d_M_count_20 : decode prog_10_method_91_code 20 = .ok (.aload_n 0, 1) := dd_M_count_0.2.2.2.2.2.2.2.2.2.2.2.2.2.1
theorem d_M_count_21 : decode prog_10_method_91_code 21 = .ok (.iload 5, 2) := dd_M_count_0.2.2.2.2.2.2.2.2.2.2.2.2.2.2.1
theorem d_M_count_23 : decode prog_10_method_91_code 23 = .ok (.invokevirtual 195, 3) := dd_M_count_0.2.2.2.2.2.2.2.2.2.2.2.2.2.2.2.1
theorem d_M_count_26 : decode prog_10_method_91_code 26 = .ok (.iadd, 1) := dd_M_count_0.2.2.2.2.2.2.2.2.2.2.2.2.2.2.2.2.1
theorem d_M_count_27 : decode prog_10_method_91_code 27 = .ok (.istore_n 2, 1) := dd_M_count_0.2.2.2.2.2.2.2.2.2.2.2.2.2.2.2.2.2.1
theorem d_M_count_28 : decode prog_10_method_91_code 28 = .ok (.iload_n 3, 1) := dd_M_count_0.2.2.2.2.2.2.2.2.2.2.2.2.2.2.2.2.2.2.1
theorem d_M_count_29 : decode prog_10_method_91_code 29 = .ok (.aload_n 0, 1) := dd_M_count_0.2.2.2.2.2.2.2.2.2.2.2.2.2.2.2.2.2.2.2.1
theorem d_M_count_30 : decode prog_10_method_91_code 30 = .ok (.getfield 7, 3) := dd_M_count_0.2.2.2.2.2.2.2.2.2.2.2.2.2.2.2.2.2.2.2.2.1
theorem d_M_count_33 : decode prog_10_method_91_code 33 = .ok (.bipush 15, 2) := dd_M_count_0.2.2.2.2.2.2.2.2.2.2.2.2.2.2.2.2.2.2.2.2.2.1
theorem d_M_count_35 : decode prog_10_method_91_code 35 = .ok (.iload 5, 2) := dd_M_count_0.2.2.2.2.2.2.2.2.2.2.2.2.2.2.2.2.2.2.2.2.2.2.1
theorem d_M_count_37 : decode prog_10_method_91_code 37 = .ok (.iadd, 1) := dd_M_count_0.2.2.2.2.2.2.2.2.2.2.2.2.2.2.2.2.2.2.2.2.2.2.2
set_option maxRecDepth 100000 in
theorem dd_M_count_38 : (decode prog_10_method_91_code 38 = .ok (.iaload, 1)) ∧ (decode prog_10_method_91_code 39 = .ok (.iadd, 1)) ∧ (decode prog_10_method_91_code 40 = .ok (.istore_n 3, 1)) ∧ (decode prog_10_method_91_code 41 = .ok (.iinc 5 1, 3)) ∧ (decode prog_10_method_91_code 44 = .ok (.goto (-34), 3)) ∧ (decode prog_10_method_91_code 47 = .ok (.iconst 0, 1)) ∧ (decode prog_10_method_91_code 48 = .ok (.istore 5, 2)) ∧ (decode prog_10_method_91_code 50 = .ok (.iload 5, 2)) ∧ (decode prog_10_method_91_code 52 = .ok (.aload_n 0, 1)) ∧ (decode prog_10_method_91_code 53 = .ok (.getfield 106, 3)) ∧ (decode prog_10_method_91_code 56 = .ok (.if_icmp .ge 20, 3)) ∧ (decode prog_10_method_91_code 59 = .ok (.iload 4, 2)) ∧ (decode prog_10_method_91_code 61 = .ok (.aload_n 0, 1)) ∧ (decode prog_10_method_91_code 62 = .ok (.iload 5, 2)) ∧ (decode prog_10_method_91_code 64 = .ok (.invokevirtual 204, 3)) ∧ (decode prog_10_method_91_code 67 = .ok (.iadd, 1)) ∧ (decode prog_10_method_91_code 68 = .ok (.istore 4, 2)) ∧ (decode prog_10_method_91_code 70 = .ok (.iinc 5 1, 3)) ∧ (decode prog_10_method_91_code 73 = .ok (.goto (-23), 3)) ∧ (decode prog_10_method_91_code 76 = .ok (.iload_n 1, 1)) ∧ (decode prog_10_method_91_code 77 = .ok (.tableswitch 121 0 7 #[47, 58, 60, 68, 88, 93, 116, 118], 47)) ∧ (decode prog_10_method_91_code 124 = .ok (.aload_n 0, 1)) ∧ (decode prog_10_method_91_code 125 = .ok (.getfield 7, 3)) ∧ (decode prog_10_method_91_code 128 = .ok (.bipush 10, 2)) := by
  have h : List.drop 38 prog_10_method_91_code.data.toList = 0x2e :: _ := rfl
  refine ⟨zq_k_n 46 h rfl (zq_o_46 _), ?_⟩
  replace h := zq_nx1 (q := 39) h rfl
  refine ⟨zq_k_n 96 h rfl (zq_o_96 _), ?_⟩
  replace h := zq_nx1 (q := 40) h rfl
  refine ⟨zq_k_n 62 h rfl (zq_o_62 _), ?_⟩
  replace h := zq_nx1 (q := 41) h rfl
  refine ⟨zq_k_iinc 5 1 h rfl (zq_o_132 _) (by decide +kernel) (by decide +kernel), ?_⟩
  replace h := zq_nx3 (q := 44) h rfl
  refine ⟨zq_k_s2 167 (fun z => .goto z) (-34) h rfl (zq_o_167 _) (by decide +kernel), ?_⟩
  replace h := zq_nx3 (q := 47) h rfl
  refine ⟨zq_k_n 3 h rfl (zq_o_3 _), ?_⟩
  replace h := zq_nx1 (q := 48) h rfl
  refine ⟨zq_k_u1 54 (fun z => .istore z) 5 h rfl (zq_o_54 _) (by decide +kernel), ?_⟩
  replace h := zq_nx2 (q := 50) h rfl
  refine ⟨zq_k_u1 21 (fun z => .iload z) 5 h rfl (zq_o_21 _) (by decide +kernel), ?_⟩
  replace h := zq_nx2 (q := 52) h rfl
  refine ⟨zq_k_n 42 h rfl (zq_o_42 _), ?_⟩
  replace h := zq_nx1 (q := 53) h rfl
  refine ⟨zq_k_u2 180 (fun z => .getfield z) 106 h rfl (zq_o_180 _) (by decide +kernel), ?_⟩
  replace h := zq_nx3 (q := 56) h rfl
  refine ⟨zq_k_s2 162 (fun z => .if_icmp .ge z) 20 h rfl (zq_o_162 _) (by decide +kernel), ?_⟩
  replace h := zq_nx3 (q := 59) h rfl
  refine ⟨zq_k_u1 21 (fun z => .iload z) 4 h rfl (zq_o_21 _) (by decide +kernel), ?_⟩
  replace h := zq_nx2 (q := 61) h rfl
  refine ⟨zq_k_n 42 h rfl (zq_o_42 _), ?_⟩
  replace h := zq_nx1 (q := 62) h rfl
  refine ⟨zq_k_u1 21 (fun z => .iload z) 5 h rfl (zq_o_21 _) (by decide +kernel), ?_⟩
  replace h := zq_nx2 (q := 64) h rfl
  refine ⟨zq_k_u2 182 (fun z => .invokevirtual z) 204 h rfl (zq_o_182 _) (by decide +kernel), ?_⟩
  replace h := zq_nx3 (q := 67) h rfl
  refine ⟨zq_k_n 96 h rfl (zq_o_96 _), ?_⟩
  replace h := zq_nx1 (q := 68) h rfl
  refine ⟨zq_k_u1 54 (fun z => .istore z) 4 h rfl (zq_o_54 _) (by decide +kernel), ?_⟩
  replace h := zq_nx2 (q := 70) h rfl
  refine ⟨zq_k_iinc 5 1 h rfl (zq_o_132 _) (by decide +kernel) (by decide +kernel), ?_⟩
  replace h := zq_nx3 (q := 73) h rfl
  refine ⟨zq_k_s2 167 (fun z => .goto z) (-23) h rfl (zq_o_167 _) (by decide +kernel), ?_⟩
  replace h := zq_nx3 (q := 76) h rfl
  refine ⟨zq_k_n 27 h rfl (zq_o_27 _), ?_⟩
  replace h := zq_nx1 (q := 77) h rfl
  refine ⟨by decide +kernel, ?_⟩
  have h : List.drop 124 prog_10_method_91_code.data.toList = 0x2a :: _ := rfl
  refine ⟨zq_k_n 42 h rfl (zq_o_42 _), ?_⟩
  replace h := zq_nx1 (q := 125) h rfl
  refine ⟨zq_k_u2 180 (fun z => .getfield z) 7 h rfl (zq_o_180 _) (by decide +kernel), ?_⟩
  replace h := zq_nx3 (q := 128) h rfl
  exact zq_k_s1 16 (fun z => .bipush z) 10 h rfl (zq_o_16 _) (by decide +kernel)
theorem d_M_count_38 : decode prog_10_method_91_code 38 = .ok (.iaload, 1) := dd_M_count_38.1
theorem d_M_count_39 : decode prog_10_method_91_code 39 = .ok (.iadd, 1) := dd_M_count_38.2.1
theorem d_M_count_40 : decode prog_10_method_91_code 40 = .ok (.istore_n 3, 1) := dd_M_count_38.2.2.1
theorem d_M_count_41 : decode prog_10_method_91_code 41 = .ok (.iinc 5 1, 3) := dd_M_count_38.2.2.2.1
theorem d_M_count_44 : decode prog_10_method_91_code 44 = .ok (.goto (-34), 3) := dd_M_count_38.2.2.2.2.1
theorem d_M_count_47 : decode prog_10_method_91_code 47 = .ok (.iconst 0, 1) := dd_M_count_38.2.2.2.2.2.1
theorem d_M_count_48 : decode prog_10_method_91_code 48 = .ok (.istore 5, 2) := dd_M_count_38.2.2.2.2.2.2.1
theorem d_M_count_50 : decode prog_10_method_91_code 50 = .ok (.iload 5, 2) := dd_M_count_38.2.2.2.2.2.2.2.1
theorem d_M_count_52 : decode prog_10_method_91_code 52 = .ok (.aload_n 0, 1) := dd_M_count_38.2.2.2.2.2.2.2.2.1
theorem d_M_count_53 : decode prog_10_method_91_code 53 = .ok (.getfield 106, 3) := dd_M_count_38.2.2.2.2.2.2.2.2.2.1
theorem d_M_count_56 : decode prog_10_method_91_code 56 = .ok (.if_icmp .ge 20, 3) := dd_M_count_38.2.2.2.2.2.2.2.2.2.2.1
theorem d_M_count_59 : decode prog_10_method_91_code 59 = .ok (.iload 4, 2) := dd_M_count_38.2.2.2.2.2.2.2.2.2.2.2.1
theorem d_M_count_61 : decode prog_10_method_91_code 61 = .ok (.aload_n 0, 1) := dd_M_count_38.2.2.2.2.2.2.2.2.2.2.2.2.1
theorem d_M_count_62 : decode prog_10_method_91_code 62 = .ok (.iload 5, 2) := dd_M_count_38.2.2.2.2.2.2.2.2.2.2.2.2.2.1
theorem d_M_count_64 : decode prog_10_method_91_code 64 = .ok (.invokevirtual 204, 3) := dd_M_count_38.2.2.2.2.2.2.2.2.2.2.2.2.2.2.1
theorem d_M_count_67 : decode prog_10_method_91_code 67 = .ok (.iadd, 1) := dd_M_count_38.2.2.2.2.2.2.2.2.2.2.2.2.2.2.2.1
theorem d_M_count_68 : decode prog_10_method_91_code 68 = .ok (.istore 4, 2) := dd_M_count_38.2.2.2.2.2.2.2.2.2.2.2.2.2.2.2.2.1
theorem d_M_count_70 : decode prog_10_method_91_code 70 = .ok (.iinc 5 1, 3) := dd_M_count_38.2.2.2.2.2.2.2.2.2.2.2.2.2.2.2.2.2.1
theorem d_M_count_73 : decode prog_10_method_91_code 73 = .ok (.goto (-23), 3) := dd_M_count_38.2.2.2.2.2.2.2.2.2.2.2.2.2.2.2.2.2.2.1
theorem d_M_count_76 : decode prog_10_method_91_code 76 = .ok (.iload_n 1, 1) := dd_M_count_38.2.2.2.2.2.2.2.2.2.2.2.2.2.2.2.2.2.2.2.1
theorem d_M_count_77 : decode prog_10_method_91_code 77 = .ok (.tableswitch 121 0 7 #[47, 58, 60, 68, 88, 93, 116, 118], 47) := dd_M_count_38.2.2.2.2.2.2.2.2.2.2.2.2.2.2.2.2.2.2.2.2.1
theorem d_M_count_124 : decode prog_10_method_91_code 124 = .ok (.aload_n 0, 1) := dd_M_count_38.2.2.2.2.2.2.2.2.2.2.2.2.2.2.2.2.2.2.2.2.2.1
theorem d_M_count_125 : decode prog_10_method_91_code 125 = .ok (.getfield 7, 3) := dd_M_count_38.2.2.2.2.2.2.2.2.2.2.2.2.2.2.2.2.2.2.2.2.2.2.1
theorem d_M_count_128 : decode prog_10_method_91_code 128 = .ok (.bipush 10, 2) := dd_M_count_38.2.2.2.2.2.2.2.2.2.2.2.2.2.2.2.2.2.2.2.2.2.2.2
set_option maxRecDepth 100000 in
theorem dd_M_count_130 : (decode prog_10_method_91_code 130 = .ok (.iaload, 1)) ∧ (decode prog_10_method_91_code 131 = .ok (.invokestatic 237, 3)) ∧ (decode prog_10_method_91_code 134 = .ok (.ireturn, 1)) ∧ (decode prog_10_method_91_code 135 = .ok (.iload_n 2, 1)) ∧ (decode prog_10_method_91_code 136 = .ok (.ireturn, 1)) ∧ (decode prog_10_method_91_code 137 = .ok (.aload_n 0, 1)) ∧ (decode prog_10_method_91_code 138 = .ok (.getfield 7, 3)) ∧ (decode prog_10_method_91_code 141 = .ok (.bipush 41, 2)) ∧ (decode prog_10_method_91_code 143 = .ok (.iaload, 1)) ∧ (decode prog_10_method_91_code 144 = .ok (.ireturn, 1)) ∧ (decode prog_10_method_91_code 145 = .ok (.aload_n 0, 1)) ∧ (decode prog_10_method_91_code 146 = .ok (.getfield 13, 3)) ∧ (decode prog_10_method_91_code 149 = .ok (.iconst 0, 1)) ∧ (decode prog_10_method_91_code 150 = .ok (.baload, 1)) ∧ (decode prog_10_method_91_code 151 = .ok (.invokestatic 220, 3)) ∧ (decode prog_10_method_91_code 154 = .ok (.aload_n 0, 1)) ∧ (decode prog_10_method_91_code 155 = .ok (.getfield 13, 3)) ∧ (decode prog_10_method_91_code 158 = .ok (.iconst 1, 1)) ∧ (decode prog_10_method_91_code 159 = .ok (.baload, 1)) ∧ (decode prog_10_method_91_code 160 = .ok (.invokestatic 220, 3)) ∧ (decode prog_10_method_91_code 163 = .ok (.iadd, 1)) ∧ (decode prog_10_method_91_code 164 = .ok (.ireturn, 1)) ∧ (decode prog_10_method_91_code 165 = .ok (.aload_n 0, 1)) ∧ (decode prog_10_method_91_code 166 = .ok (.getfield 118, 3)) := by
  have h : List.drop 130 prog_10_method_91_code.data.toList = 0x2e :: _ := rfl
  refine ⟨zq_k_n 46 h rfl (zq_o_46 _), ?_⟩
  replace h := zq_nx1 (q := 131) h rfl
  refine ⟨zq_k_u2 184 (fun z => .invokestatic z) 237 h rfl (zq_o_184 _) (by decide +kernel), ?_⟩
  replace h := zq_nx3 (q := 134) h rfl
  refine ⟨zq_k_n 172 h rfl (zq_o_172 _), ?_⟩
  replace h := zq_nx1 (q := 135) h rfl
  refine ⟨zq_k_n 28 h rfl (zq_o_28 _), ?_⟩
  replace h := zq_nx1 (q := 136) h rfl
  refine ⟨zq_k_n 172 h rfl (zq_o_172 _), ?_⟩
  replace h := zq_nx1 (q := 137) h rfl
  refine ⟨zq_k_n 42 h rfl (zq_o_42 _), ?_⟩
  replace h := zq_nx1 (q := 138) h rfl
  refine ⟨zq_k_u2 180 (fun z => .getfield z) 7 h rfl (zq_o_180 _) (by decide +kernel), ?_⟩
  replace h := zq_nx3 (q := 141) h rfl
  refine ⟨zq_k_s1 16 (fun z => .bipush z) 41 h rfl (zq_o_16 _) (by decide +kernel), ?_⟩
  replace h := zq_nx2 (q := 143) h rfl
  refine ⟨zq_k_n 46 h rfl (zq_o_46 _), ?_⟩
  replace h := zq_nx1 (q := 144) h rfl
  refine ⟨zq_k_n 172 h rfl (zq_o_172 _), ?_⟩
  replace h := zq_nx1 (q := 145) h rfl
  refine ⟨zq_k_n 42 h rfl (zq_o_42 _), ?_⟩
  replace h := zq_nx1 (q := 146) h rfl
  refine ⟨zq_k_u2 180 (fun z => .getfield z) 13 h rfl (zq_o_180 _) (by decide +kernel), ?_⟩
  replace h := zq_nx3 (q := 149) h rfl
  refine ⟨zq_k_n 3 h rfl (zq_o_3 _), ?_⟩
  replace h := zq_nx1 (q := 150) h rfl
  refine ⟨zq_k_n 51 h rfl (zq_o_51 _), ?_⟩
  replace h := zq_nx1 (q := 151) h rfl
  refine ⟨zq_k_u2 184 (fun z => .invokestatic z) 220 h rfl (zq_o_184 _) (by decide +kernel), ?_⟩
  replace h := zq_nx3 (q := 154) h rfl
  refine ⟨zq_k_n 42 h rfl (zq_o_42 _), ?_⟩
  replace h := zq_nx1 (q := 155) h rfl
  refine ⟨zq_k_u2 180 (fun z => .getfield z) 13 h rfl (zq_o_180 _) (by decide +kernel), ?_⟩
  replace h := zq_nx3 (q := 158) h rfl
  refine ⟨zq_k_n 4 h rfl (zq_o_4 _), ?_⟩
  replace h := zq_nx1 (q := 159) h rfl
  refine ⟨zq_k_n 51 h rfl (zq_o_51 _), ?_⟩
  replace h := zq_nx1 (q := 160) h rfl
  refine ⟨zq_k_u2 184 (fun z => .invokestatic z) 220 h rfl (zq_o_184 _) (by decide +kernel), ?_⟩
  replace h := zq_nx3 (q := 163) h rfl
  refine ⟨zq_k_n 96 h rfl (zq_o_96 _), ?_⟩
  replace h := zq_nx1 (q := 164) h rfl
  refine ⟨zq_k_n 172 h rfl (zq_o_172 _), ?_⟩
  replace h := zq_nx1 (q := 165) h rfl
  refine ⟨zq_k_n 42 h rfl (zq_o_42 _), ?_⟩
  replace h := zq_nx1 (q := 166) h rfl
  exact zq_k_u2 180 (fun z => .getfield z) 118 h rfl (zq_o_180 _) (by decide +kernel)
theorem d_M_count_130 : decode prog_10_method_91_code 130 = .ok (.iaload, 1) := dd_M_count_130.1
theorem d_M_count_131 : decode prog_10_method_91_code 131 = .ok (.invokestatic 237, 3) := dd_M_count_130.2.1
theorem d_M_count_134 : decode prog_10_method_91_code 134 = .ok (.ireturn, 1) := dd_M_count_130.2.2.1
theorem d_M_count_135 : decode prog_10_method_91_code 135 = .ok (.iload_n 2, 1) := dd_M_count_130.2.2.2.1
theorem d_M_count_136 : decode prog_10_method_91_code 136 = .ok (.ireturn, 1) := dd_M_count_130.2.2.2.2.1
theorem d_M_count_137 : decode prog_10_method_91_code 137 = .ok (.aload_n 0, 1) := dd_M_count_130.2.2.2.2.2.1
theorem d_M_count_138 : decode prog_10_method_91_code 138 = .ok (.getfield 7, 3) := dd_M_count_130.2.2.2.2.2.2.1
theorem d_M_count_141 : decode prog_10_method_91_code 141 = .ok (.bipush 41, 2) := dd_M_count_130.2.2.2.2.2.2.2.1
theorem d_M_count_143 : decode prog_10_method_91_code 143 = .ok (.iaload, 1) := dd_M_count_130.2.2.2.2.2.2.2.2.1
theorem d_M_count_144 : decode prog_10_method_91_code 144 = .ok (.ireturn, 1) := dd_M_count_130.2.2.2.2.2.2.2.2.2.1
theorem d_M_count_145 : decode prog_10_method_91_code 145 = .ok (.aload_n 0, 1) := dd_M_count_130.2.2.2.2.2.2.2.2.2.2.1
theorem d_M_count_146 : decode prog_10_method_91_code 146 = .ok (.getfield 13, 3) := dd_M_count_130.2.2.2.2.2.2.2.2.2.2.2.1
theorem d_M_count_149 : decode prog_10_method_91_code 149 = .ok (.iconst 0, 1) := dd_M_count_130.2.2.2.2.2.2.2.2.2.2.2.2.1
theorem d_M_count_150 : decode prog_10_method_91_code 150 = .ok (.baload, 1) := dd_M_count_130.2.2.2.2.2.2.2.2.2.2.2.2.2.1
theorem d_M_count_151 : decode prog_10_method_91_code 151 = .ok (.invokestatic 220, 3) := dd_M_count_130.2.2.2.2.2.2.2.2.2.2.2.2.2.2.1
theorem d_M_count_154 : decode prog_10_method_91_code 154 = .ok (.aload_n 0, 1) := dd_M_count_130.2.2.2.2.2.2.2.2.2.2.2.2.2.2.2.1
theorem d_M_count_155 : decode prog_10_method_91_code 155 = .ok (.getfield 13, 3) := dd_M_count_130.2.2.2.2.2.2.2.2.2.2.2.2.2.2.2.2.1
theorem d_M_count_158 : decode prog_10_method_91_code 158 = .ok (.iconst 1, 1) := dd_M_count_130.2.2.2.2.2.2.2.2.2.2.2.2.2.2.2.2.2.1
theorem d_M_count_159 : decode prog_10_method_91_code 159 = .ok (.baload, 1) := dd_M_count_130.2.2.2.2.2.2.2.2.2.2.2.2.2.2.2.2.2.2.1
theorem d_M_count_160 : decode prog_10_method_91_code 160 = .ok (.invokestatic 220, 3) := dd_M_count_130.2.2.2.2.2.2.2.2.2.2.2.2.2.2.2.2.2.2.2.1
theorem d_M_count_163 : decode prog_10_method_91_code 163 = .ok (.iadd, 1) := dd_M_count_130.2.2.2.2.2.2.2.2.2.2.2.2.2.2.2.2.2.2.2.2.1
theorem d_M_count_164 : decode prog_10_method_91_code 164 = .ok (.ireturn, 1) := dd_M_count_130.2.2.2.2.2.2.2.2.2.2.2.2.2.2.2.2.2.2.2.2.2.1
theorem d_M_count_165 : decode prog_10_method_91_code 165 = .ok (.aload_n 0, 1) := dd_M_count_130.2.2.2.2.2.2.2.2.2.2.2.2.2.2.2.2.2.2.2.2.2.2.1
theorem d_M_count_166 : decode prog_10_method_91_code 166 = .ok (.getfield 118, 3) := dd_M_count_130.2.2.2.2.2.2.2.2.2.2.2.2.2.2.2.2.2.2.2.2.2.2.2
set_option maxRecDepth 100000 in
theorem dd_M_count_169 : (decode prog_10_method_91_code 169 = .ok (.ireturn, 1)) ∧ (decode prog_10_method_91_code 170 = .ok (.aload_n 0, 1)) ∧ (decode prog_10_method_91_code 171 = .ok (.getfield 78, 3)) ∧ (decode prog_10_method_91_code 174 = .ok (.iconst 0, 1)) ∧ (decode prog_10_method_91_code 175 = .ok (.iaload, 1)) ∧ (decode prog_10_method_91_code 176 = .ok (.bipush (-4), 2)) ∧ (decode prog_10_method_91_code 178 = .ok (.if_icmp .ne 8, 3)) ∧ (decode prog_10_method_91_code 181 = .ok (.bipush (-4), 2)) ∧ (decode prog_10_method_91_code 183 = .ok (.goto 9, 3)) ∧ (decode prog_10_method_91_code 186 = .ok (.aload_n 0, 1)) ∧ (decode prog_10_method_91_code 187 = .ok (.getfield 81, 3)) ∧ (decode prog_10_method_91_code 190 = .ok (.iconst 0, 1)) ∧ (decode prog_10_method_91_code 191 = .ok (.iaload, 1)) ∧ (decode prog_10_method_91_code 192 = .ok (.ireturn, 1)) ∧ (decode prog_10_method_91_code 193 = .ok (.iload_n 3, 1)) ∧ (decode prog_10_method_91_code 194 = .ok (.ireturn, 1)) ∧ (decode prog_10_method_91_code 195 = .ok (.iload 4, 2)) ∧ (decode prog_10_method_91_code 197 = .ok (.ireturn, 1)) ∧ (decode prog_10_method_91_code 198 = .ok (.iconst (-1), 1)) ∧ (decode prog_10_method_91_code 199 = .ok (.ireturn, 1)) := by
  have h : List.drop 169 prog_10_method_91_code.data.toList = 0xac :: _ := rfl
  refine ⟨zq_k_n 172 h rfl (zq_o_172 _), ?_⟩
  replace h := zq_nx1 (q := 170) h rfl
  refine ⟨zq_k_n 42 h rfl (zq_o_42 _), ?_⟩
  replace h := zq_nx1 (q := 171) h rfl
  refine ⟨zq_k_u2 180 (fun z => .getfield z) 78 h rfl (zq_o_180 _) (by decide +kernel), ?_⟩
  replace h := zq_nx3 (q := 174) h rfl
  refine ⟨zq_k_n 3 h rfl (zq_o_3 _), ?_⟩
  replace h := zq_nx1 (q := 175) h rfl
  refine ⟨zq_k_n 46 h rfl (zq_o_46 _), ?_⟩
  replace h := zq_nx1 (q := 176) h rfl
  refine ⟨zq_k_s1 16 (fun z => .bipush z) (-4) h rfl (zq_o_16 _) (by decide +kernel), ?_⟩
  replace h := zq_nx2 (q := 178) h rfl
  refine ⟨zq_k_s2 160 (fun z => .if_icmp .ne z) 8 h rfl (zq_o_160 _) (by decide +kernel), ?_⟩
  replace h := zq_nx3 (q := 181) h rfl
  refine ⟨zq_k_s1 16 (fun z => .bipush z) (-4) h rfl (zq_o_16 _) (by decide +kernel), ?_⟩
  replace h := zq_nx2 (q := 183) h rfl
  refine ⟨zq_k_s2 167 (fun z => .goto z) 9 h rfl (zq_o_167 _) (by decide +kernel), ?_⟩
  replace h := zq_nx3 (q := 186) h rfl
  refine ⟨zq_k_n 42 h rfl (zq_o_42 _), ?_⟩
  replace h := zq_nx1 (q := 187) h rfl
  refine ⟨zq_k_u2 180 (fun z => .getfield z) 81 h rfl (zq_o_180 _) (by decide +kernel), ?_⟩
  replace h := zq_nx3 (q := 190) h rfl
  refine ⟨zq_k_n 3 h rfl (zq_o_3 _), ?_⟩
  replace h := zq_nx1 (q := 191) h rfl
  refine ⟨zq_k_n 46 h rfl (zq_o_46 _), ?_⟩
  replace h := zq_nx1 (q := 192) h rfl
  refine ⟨zq_k_n 172 h rfl (zq_o_172 _), ?_⟩
  replace h := zq_nx1 (q := 193) h rfl
  refine ⟨zq_k_n 29 h rfl (zq_o_29 _), ?_⟩
  replace h := zq_nx1 (q := 194) h rfl
  refine ⟨zq_k_n 172 h rfl (zq_o_172 _), ?_⟩
  replace h := zq_nx1 (q := 195) h rfl
  refine ⟨zq_k_u1 21 (fun z => .iload z) 4 h rfl (zq_o_21 _) (by decide +kernel), ?_⟩
  replace h := zq_nx2 (q := 197) h rfl
  refine ⟨zq_k_n 172 h rfl (zq_o_172 _), ?_⟩
  replace h := zq_nx1 (q := 198) h rfl
  refine ⟨zq_k_n 2 h rfl (zq_o_2 _), ?_⟩
  replace h := zq_nx1 (q := 199) h rfl
  exact zq_k_n 172 h rfl (zq_o_172 _)
theorem d_M_count_169 : decode prog_10_method_91_code 169 = .ok (.ireturn, 1) := dd_M_count_169.1
theorem d_M_count_170 : decode prog_10_method_91_code 170 = .ok (.aload_n 0, 1) := dd_M_count_169.2.1
theorem d_M_count_171 : decode prog_10_method_91_code 171 = .ok (.getfield 78, 3) := dd_M_count_169.2.2.1
theorem d_M_count_174 : decode prog_10_method_91_code 174 = .ok (.iconst 0, 1) := dd_M_count_169.2.2.2.1
theorem d_M_count_175 : decode prog_10_method_91_code 175 = .ok (.iaload, 1) := dd_M_count_169.2.2.2.2.1
theorem d_M_count_176 : decode prog_10_method_91_code 176 = .ok (.bipush (-4), 2) := dd_M_count_169.2.2.2.2.2.1
theorem d_M_count_178 : decode prog_10_method_91_code 178 = .ok (.if_icmp .ne 8, 3) := dd_M_count_169.2.2.2.2.2.2.1
theorem d_M_count_181 : decode prog_10_method_91_code 181 = .ok (.bipush (-4), 2) := dd_M_count_169.2.2.2.2.2.2.2.1
theorem d_M_count_183 : decode prog_10_method_91_code 183 = .ok (.goto 9, 3) := dd_M_count_169.2.2.2.2.2.2.2.2.1
theorem d_M_count_186 : decode prog_10_method_91_code 186 = .ok (.aload_n 0, 1) := dd_M_count_169.2.2.2.2.2.2.2.2.2.1
theorem d_M_count_187 : decode prog_10_method_91_code 187 = .ok (.getfield 81, 3) := dd_M_count_169.2.2.2.2.2.2.2.2.2.2.1
theorem d_M_count_190 : decode prog_10_method_91_code 190 = .ok (.iconst 0, 1) := dd_M_count_169.2.2.2.2.2.2.2.2.2.2.2.1
theorem d_M_count_191 : decode prog_10_method_91_code 191 = .ok (.iaload, 1) := dd_M_count_169.2.2.2.2.2.2.2.2.2.2.2.2.1
theorem d_M_count_192 : decode prog_10_method_91_code 192 = .ok (.ireturn, 1) := dd_M_count_169.2.2.2.2.2.2.2.2.2.2.2.2.2.1
theorem d_M_count_193 : decode prog_10_method_91_code 193 = .ok (.iload_n 3, 1) := dd_M_count_169.2.2.2.2.2.2.2.2.2.2.2.2.2.2.1
theorem d_M_count_194 : decode prog_10_method_91_code 194 = .ok (.ireturn, 1) := dd_M_count_169.2.2.2.2.2.2.2.2.2.2.2.2.2.2.2.1
theorem d_M_count_195 : decode prog_10_method_91_code 195 = .ok (.iload 4, 2) := dd_M_count_169.2.2.2.2.2.2.2.2.2.2.2.2.2.2.2.2.1
theorem d_M_count_197 : decode prog_10_method_91_code 197 = .ok (.ireturn, 1) := dd_M_count_169.2.2.2.2.2.2.2.2.2.2.2.2.2.2.2.2.2.1
theorem d_M_count_198 : decode prog_10_method_91_code 198 = .ok (.iconst (-1), 1) := dd_M_count_169.2.2.2.2.2.2.2.2.2.2.2.2.2.2.2.2.2.2.1
theorem d_M_count_199 : decode prog_10_method_91_code 199 = .ok (.ireturn, 1) := dd_M_count_169.2.2.2.2.2.2.2.2.2.2.2.2.2.2.2.2.2.2.2
def f_M_count_50b (rec50 : Nat → Int32 → Int32 → Int32 → Int32 → Int32 → mH → Option (Int32 × mH)) (b0 : Nat) (b1 : Int32) (b2 : Int32) (b3 : Int32) (b4 : Int32) (b5 : Int32) (h : mH) : Option (Int32 × mH) :=
  bd1 (gI h b0 8 2) fun x13 =>
  if x13 ≤ b5 then
    if b1 = (0 : Int32) then
      bd1 (gR h b0 8 0) fun x16 =>
      bd1 (aI h 0 x16 (10 : Int32)) fun x18 =>
      bd2 (f_M_bitsOf x18 h) fun x22 h20 =>
      some (x22, h20)
    else
    if b1 = (1 : Int32) then
      some (b2, h)
    else
    if b1 = (2 : Int32) then
      bd1 (gR h b0 8 0) fun x25 =>
      bd1 (aI h 0 x25 (41 : Int32)) fun x27 =>
      some (x27, h)
    else
    if b1 = (3 : Int32) then
      bd1 (gR h b0 8 1) fun x30 =>
      bd1 (aI h 2 x30 (0 : Int32)) fun x32 =>
      bd2 (f_M_flag x32 h) fun x36 h34 =>
      bd1 (gR h34 b0 8 1) fun x37 =>
      bd1 (aI h34 2 x37 (1 : Int32)) fun x39 =>
      bd2 (f_M_flag x39 h34) fun x43 h41 =>
      some (x36 + x43, h41)
    else
    if b1 = (4 : Int32) then
      bd1 (gI h b0 8 20) fun x45 =>
      some (x45, h)
    else
    if b1 = (5 : Int32) then
      bd1 (gR h b0 8 35) fun x48 =>
      bd1 (aI h 0 x48 (0 : Int32)) fun x50 =>
      if x50 = ((-4) : Int32) then
        some (((-4) : Int32), h)
      else
        bd1 (gR h b0 8 36) fun x52 =>
        bd1 (aI h 0 x52 (0 : Int32)) fun x54 =>
        some (x54, h)
    else
    if b1 = (6 : Int32) then
      some (b3, h)
    else
    if b1 = (7 : Int32) then
      some (b4, h)
    else
    some (((-1) : Int32), h)
  else
    bd1 (kC h b0 8) fun _ =>
    bd2 (f_M_needOf b0 b5 h) fun x63 h61 =>
    rec50 b0 b1 b2 b3 (b4 + x63) (b5 + (1 : Int32)) h61
set_option maxRecDepth 20000 in
theorem t_M_count_50b {sc : Nat × (Nat → Int32)} (rec50 : Nat → Int32 → Int32 → Int32 → Int32 → Int32 → mH → Option (Int32 × mH)) (hrec50 : ∀ (b0 : Nat) (b1 : Int32) (b2 : Int32) (b3 : Int32) (b4 : Int32) (b5 : Int32) (h : mH) (r : Int32) (h' : mH), rec50 b0 b1 b2 b3 b4 b5 h = some (r, h') → G sc y_M_count prog_10_method_91_code 6 (some .int) 2 45 50 [(0, .ref b0), (1, .int b1), (2, .int b2), (3, .int b3), (4, .int b4), (5, .int b5)] [] h (some (.int r)) h') (b0 : Nat) (b1 : Int32) (b2 : Int32) (b3 : Int32) (b4 : Int32) (b5 : Int32) (h : mH) (r : Int32) (h' : mH) (hf : f_M_count_50b rec50 b0 b1 b2 b3 b4 b5 h = some (r, h')) : G sc y_M_count prog_10_method_91_code 6 (some .int) 2 45 50 [(0, .ref b0), (1, .int b1), (2, .int b2), (3, .int b3), (4, .int b4), (5, .int b5)] [] h (some (.int r)) h' := by
  unfold f_M_count_50b at hf
  refine g_iload (pc := 50) 5 d_M_count_50 rfl ?_
  refine g_aload_n (pc := 52) 0 d_M_count_52 rfl rfl ?_
  obtain ⟨x13, e14, hf⟩ := bd1_e hf
  refine g_get (pc := 53) (ci := 8) (kk := 2) d_M_count_53 rfl in_M (by decide) wd_940 (gI_spec e14) ?_
  refine g_icmpge (pc := 56) 76 d_M_count_56 (by decide) (fun c64 => ?_) (fun c64 => ?_)
  · replace hf := (if_pos c64).symm.trans hf
    refine g_iload_n (pc := 76) 1 d_M_count_76 rfl rfl ?_
    by_cases c15 : b1 = (0 : Int32)
    · replace hf := (if_pos c15).symm.trans hf
      refine g_tabIn (pc := 77) 124 (0 : Int32) d_M_count_77 c15 (by decide) (by decide) rfl (by decide) ?_
      refine g_aload_n (pc := 124) 0 d_M_count_124 rfl rfl ?_
      obtain ⟨x16, e17, hf⟩ := bd1_e hf
      refine g_get (pc := 125) (ci := 8) (kk := 0) d_M_count_125 rfl in_M (by decide) wd_938 (gR_spec e17) ?_
      refine g_bipush (pc := 128) (10 : Int32) d_M_count_128 (by decide) ?_
      obtain ⟨x18, e19, hf⟩ := bd1_e hf
      refine g_iald (pc := 130) d_M_count_130 e19 ?_
      obtain ⟨x22, h20, e21, hf⟩ := bd2_e hf
      refine g_callS (pc := 131) [.int x18] (site_of si_M_bitsOf (by decide) (by decide)) wd_1230 wd_1231 d_M_count_131 (Nat.le_of_ble_eq_true rfl) (fun z => absurd z (by decide)) (fun z => absurd z (by decide)) (fun z => absurd z (by decide)) (c_M_bitsOf e21) rfl ?_
      refine g_st [.int x22] rfl ?_
      obtain ⟨rfl, rfl⟩ := ret2 hf
      exact g_iret (pc := 134) rfl d_M_count_134
    replace hf := (if_neg c15).symm.trans hf
    by_cases c23 : b1 = (1 : Int32)
    · replace hf := (if_pos c23).symm.trans hf
      refine g_tabIn (pc := 77) 135 (1 : Int32) d_M_count_77 c23 (by decide) (by decide) rfl (by decide) ?_
      refine g_iload_n (pc := 135) 2 d_M_count_135 rfl rfl ?_
      obtain ⟨rfl, rfl⟩ := ret2 hf
      exact g_iret (pc := 136) rfl d_M_count_136
    replace hf := (if_neg c23).symm.trans hf
    by_cases c24 : b1 = (2 : Int32)
    · replace hf := (if_pos c24).symm.trans hf
      refine g_tabIn (pc := 77) 137 (2 : Int32) d_M_count_77 c24 (by decide) (by decide) rfl (by decide) ?_
      refine g_aload_n (pc := 137) 0 d_M_count_137 rfl rfl ?_
      obtain ⟨x25, e26, hf⟩ := bd1_e hf
      refine g_get (pc := 138) (ci := 8) (kk := 0) d_M_count_138 rfl in_M (by decide) wd_938 (gR_spec e26) ?_
      refine g_bipush (pc := 141) (41 : Int32) d_M_count_141 (by decide) ?_
      obtain ⟨x27, e28, hf⟩ := bd1_e hf
      refine g_iald (pc := 143) d_M_count_143 e28 ?_
      obtain ⟨rfl, rfl⟩ := ret2 hf
      exact g_iret (pc := 144) rfl d_M_count_144
    replace hf := (if_neg c24).symm.trans hf
    by_cases c29 : b1 = (3 : Int32)
    · replace hf := (if_pos c29).symm.trans hf
      refine g_tabIn (pc := 77) 145 (3 : Int32) d_M_count_77 c29 (by decide) (by decide) rfl (by decide) ?_
      refine g_aload_n (pc := 145) 0 d_M_count_145 rfl rfl ?_
      obtain ⟨x30, e31, hf⟩ := bd1_e hf
      refine g_get (pc := 146) (ci := 8) (kk := 1) d_M_count_146 rfl in_M (by decide) wd_939 (gR_spec e31) ?_
      refine g_iconst (pc := 149) (0 : Int32) d_M_count_149 (by decide) ?_
      obtain ⟨x32, e33, hf⟩ := bd1_e hf
      refine g_zald (pc := 150) d_M_count_150 e33 ?_
      obtain ⟨x36, h34, e35, hf⟩ := bd2_e hf
      refine g_callS (pc := 151) [.int x32] (site_of si_M_flag (by decide) (by decide)) wd_1180 wd_1181 d_M_count_151 (Nat.le_of_ble_eq_true rfl) (fun z => absurd z (by decide)) (fun z => absurd z (by decide)) (fun z => absurd z (by decide)) (c_M_flag e35) rfl ?_
      refine g_st [.int x36] rfl ?_
      refine g_aload_n (pc := 154) 0 d_M_count_154 rfl rfl ?_
      obtain ⟨x37, e38, hf⟩ := bd1_e hf
      refine g_get (pc := 155) (ci := 8) (kk := 1) d_M_count_155 rfl in_M (by decide) wd_939 (gR_spec e38) ?_
      refine g_iconst (pc := 158) (1 : Int32) d_M_count_158 (by decide) ?_
      obtain ⟨x39, e40, hf⟩ := bd1_e hf
      refine g_zald (pc := 159) d_M_count_159 e40 ?_
      obtain ⟨x43, h41, e42, hf⟩ := bd2_e hf
      refine g_callS (pc := 160) [.int x39] (site_of si_M_flag (by decide) (by decide)) wd_1180 wd_1181 d_M_count_160 (Nat.le_of_ble_eq_true rfl) (fun z => absurd z (by decide)) (fun z => absurd z (by decide)) (fun z => absurd z (by decide)) (c_M_flag e42) rfl ?_
      refine g_st [.int x43, .int x36] rfl ?_
      refine g_iadd (pc := 163) d_M_count_163 ?_
      obtain ⟨rfl, rfl⟩ := ret2 hf
      exact g_iret (pc := 164) rfl d_M_count_164
    replace hf := (if_neg c29).symm.trans hf
    by_cases c44 : b1 = (4 : Int32)
    · replace hf := (if_pos c44).symm.trans hf
      refine g_tabIn (pc := 77) 165 (4 : Int32) d_M_count_77 c44 (by decide) (by decide) rfl (by decide) ?_
      refine g_aload_n (pc := 165) 0 d_M_count_165 rfl rfl ?_
      obtain ⟨x45, e46, hf⟩ := bd1_e hf
      refine g_get (pc := 166) (ci := 8) (kk := 20) d_M_count_166 rfl in_M (by decide) wd_958 (gI_spec e46) ?_
      obtain ⟨rfl, rfl⟩ := ret2 hf
      exact g_iret (pc := 169) rfl d_M_count_169
    replace hf := (if_neg c44).symm.trans hf
    by_cases c47 : b1 = (5 : Int32)
    · replace hf := (if_pos c47).symm.trans hf
      refine g_tabIn (pc := 77) 170 (5 : Int32) d_M_count_77 c47 (by decide) (by decide) rfl (by decide) ?_
      refine g_aload_n (pc := 170) 0 d_M_count_170 rfl rfl ?_
      obtain ⟨x48, e49, hf⟩ := bd1_e hf
      refine g_get (pc := 171) (ci := 8) (kk := 35) d_M_count_171 rfl in_M (by decide) wd_973 (gR_spec e49) ?_
      refine g_iconst (pc := 174) (0 : Int32) d_M_count_174 (by decide) ?_
      obtain ⟨x50, e51, hf⟩ := bd1_e hf
      refine g_iald (pc := 175) d_M_count_175 e51 ?_
      refine g_bipush (pc := 176) ((-4) : Int32) d_M_count_176 (by decide) ?_
      refine g_icmpne (pc := 178) 186 d_M_count_178 (by decide) (fun c56 => ?_) (fun c56 => ?_)
      · replace hf := (if_neg c56).symm.trans hf
        refine g_aload_n (pc := 186) 0 d_M_count_186 rfl rfl ?_
        obtain ⟨x52, e53, hf⟩ := bd1_e hf
        refine g_get (pc := 187) (ci := 8) (kk := 36) d_M_count_187 rfl in_M (by decide) wd_974 (gR_spec e53) ?_
        refine g_iconst (pc := 190) (0 : Int32) d_M_count_190 (by decide) ?_
        obtain ⟨x54, e55, hf⟩ := bd1_e hf
        refine g_iald (pc := 191) d_M_count_191 e55 ?_
        obtain ⟨rfl, rfl⟩ := ret2 hf
        exact g_iret (pc := 192) rfl d_M_count_192
      · replace hf := (if_pos c56).symm.trans hf
        refine g_bipush (pc := 181) ((-4) : Int32) d_M_count_181 (by decide) ?_
        refine g_goto (pc := 183) 192 d_M_count_183 (by decide) ?_
        obtain ⟨rfl, rfl⟩ := ret2 hf
        exact g_iret (pc := 192) rfl d_M_count_192
    replace hf := (if_neg c47).symm.trans hf
    by_cases c57 : b1 = (6 : Int32)
    · replace hf := (if_pos c57).symm.trans hf
      refine g_tabIn (pc := 77) 193 (6 : Int32) d_M_count_77 c57 (by decide) (by decide) rfl (by decide) ?_
      refine g_iload_n (pc := 193) 3 d_M_count_193 rfl rfl ?_
      obtain ⟨rfl, rfl⟩ := ret2 hf
      exact g_iret (pc := 194) rfl d_M_count_194
    replace hf := (if_neg c57).symm.trans hf
    by_cases c58 : b1 = (7 : Int32)
    · replace hf := (if_pos c58).symm.trans hf
      refine g_tabIn (pc := 77) 195 (7 : Int32) d_M_count_77 c58 (by decide) (by decide) rfl (by decide) ?_
      refine g_iload (pc := 195) 4 d_M_count_195 rfl ?_
      obtain ⟨rfl, rfl⟩ := ret2 hf
      exact g_iret (pc := 197) rfl d_M_count_197
    replace hf := (if_neg c58).symm.trans hf
    refine g_tabOut (pc := 77) 198 8 d_M_count_77 (by decide) (fun i hi => ?_) (by decide) ?_
    · rcases (show i = 0 ∨ i = 1 ∨ i = 2 ∨ i = 3 ∨ i = 4 ∨ i = 5 ∨ i = 6 ∨ i = 7 by omega) with rfl | rfl | rfl | rfl | rfl | rfl | rfl | rfl
      · exact c15
      · exact c23
      · exact c24
      · exact c29
      · exact c44
      · exact c47
      · exact c57
      · exact c58
    refine g_iconst (pc := 198) ((-1) : Int32) d_M_count_198 (by decide) ?_
    obtain ⟨rfl, rfl⟩ := ret2 hf
    exact g_iret (pc := 199) rfl d_M_count_199
  · replace hf := (if_neg c64).symm.trans hf
    refine g_iload (pc := 59) 4 d_M_count_59 rfl ?_
    refine g_aload_n (pc := 61) 0 d_M_count_61 rfl rfl ?_
    refine g_iload (pc := 62) 5 d_M_count_62 rfl ?_
    obtain ⟨u60, e59, hf⟩ := bd1_e hf
    obtain ⟨x63, h61, e62, hf⟩ := bd2_e hf
    refine g_callV (pc := 64) (ci := 8) [.int b5] (site_of si_M_needOf (by decide) (by decide)) wd_1140 wd_1142 wp_45 d_M_count_64 rfl e59 (Nat.le_of_ble_eq_true rfl) (fun z => absurd z (by decide)) (fun z => absurd z (by decide)) (fun z => absurd z (by decide)) (c_M_needOf e62) rfl ?_
    refine g_st [.int x63, .int b4] rfl ?_
    refine g_iadd (pc := 67) d_M_count_67 ?_
    refine g_istore (pc := 68) [(4, .int (b4 + x63)), (0, .ref b0), (1, .int b1), (2, .int b2), (3, .int b3), (5, .int b5)] d_M_count_68 (Nat.le_of_ble_eq_true rfl) rfl ?_
    refine g_iinc (pc := 70) 5 (b5 + (1 : Int32)) [(5, .int (b5 + (1 : Int32))), (4, .int (b4 + x63)), (0, .ref b0), (1, .int b1), (2, .int b2), (3, .int b3)] d_M_count_70 rfl rfl (Nat.le_of_ble_eq_true rfl) rfl ?_
    refine g_goto (pc := 73) 50 d_M_count_73 (by decide) ?_
    refine g_lv [2, 3, 4, 5, 1, 0] rfl ?_
    exact hrec50 _ _ _ _ _ _ _ _ _  hf
def f_M_count_50  : Nat → Nat → Int32 → Int32 → Int32 → Int32 → Int32 → mH → Option (Int32 × mH)
  | 0 => fun _ _ _ _ _ _ _ => none
  | n + 1 => f_M_count_50b  (f_M_count_50  n)
theorem t_M_count_50 {sc : Nat × (Nat → Int32)}  : ∀ (n : Nat) (b0 : Nat) (b1 : Int32) (b2 : Int32) (b3 : Int32) (b4 : Int32) (b5 : Int32) (h : mH) (r : Int32) (h' : mH) (hf : f_M_count_50  n b0 b1 b2 b3 b4 b5 h = some (r, h')), G sc y_M_count prog_10_method_91_code 6 (some .int) 2 45 50 [(0, .ref b0), (1, .int b1), (2, .int b2), (3, .int b3), (4, .int b4), (5, .int b5)] [] h (some (.int r)) h'
  | 0, _, _, _, _, _, _, _, _, _, hf => by cases hf
  | n + 1, _, _, _, _, _, _, _, _, _, hf => t_M_count_50b  (f_M_count_50  n) (t_M_count_50  n) _ _ _ _ _ _ _ _ _ hf
def f_M_count_10b (rec10 : Nat → Int32 → Int32 → Int32 → Int32 → Int32 → mH → Option (Int32 × mH)) (b0 : Nat) (b1 : Int32) (b2 : Int32) (b3 : Int32) (b4 : Int32) (b5 : Int32) (h : mH) : Option (Int32 × mH) :=
  bd1 (gI h b0 8 3) fun x1 =>
  if x1 ≤ b5 then
    f_M_count_50  FU b0 b1 b2 b3 b4 (0 : Int32) h
  else
    bd1 (kC h b0 8) fun _ =>
    bd2 (f_M_allBy b0 b5 h) fun x7 h5 =>
    bd1 (gR h5 b0 8 0) fun x8 =>
    bd1 (aI h5 0 x8 ((15 : Int32) + b5)) fun x10 =>
    rec10 b0 b1 (b2 + x7) (b3 + x10) b4 (b5 + (1 : Int32)) h5
set_option maxRecDepth 20000 in
theorem t_M_count_10b {sc : Nat × (Nat → Int32)} (rec10 : Nat → Int32 → Int32 → Int32 → Int32 → Int32 → mH → Option (Int32 × mH)) (hrec10 : ∀ (b0 : Nat) (b1 : Int32) (b2 : Int32) (b3 : Int32) (b4 : Int32) (b5 : Int32) (h : mH) (r : Int32) (h' : mH), rec10 b0 b1 b2 b3 b4 b5 h = some (r, h') → G sc y_M_count prog_10_method_91_code 6 (some .int) 2 45 10 [(0, .ref b0), (1, .int b1), (2, .int b2), (3, .int b3), (4, .int b4), (5, .int b5)] [] h (some (.int r)) h') (b0 : Nat) (b1 : Int32) (b2 : Int32) (b3 : Int32) (b4 : Int32) (b5 : Int32) (h : mH) (r : Int32) (h' : mH) (hf : f_M_count_10b rec10 b0 b1 b2 b3 b4 b5 h = some (r, h')) : G sc y_M_count prog_10_method_91_code 6 (some .int) 2 45 10 [(0, .ref b0), (1, .int b1), (2, .int b2), (3, .int b3), (4, .int b4), (5, .int b5)] [] h (some (.int r)) h' := by
  unfold f_M_count_10b at hf
  refine g_iload (pc := 10) 5 d_M_count_10 rfl ?_
  refine g_aload_n (pc := 12) 0 d_M_count_12 rfl rfl ?_
  obtain ⟨x1, e2, hf⟩ := bd1_e hf
  refine g_get (pc := 13) (ci := 8) (kk := 3) d_M_count_13 rfl in_M (by decide) wd_941 (gI_spec e2) ?_
  refine g_icmpge (pc := 16) 47 d_M_count_16 (by decide) (fun c12 => ?_) (fun c12 => ?_)
  · replace hf := (if_pos c12).symm.trans hf
    refine g_iconst (pc := 47) (0 : Int32) d_M_count_47 (by decide) ?_
    refine g_istore (pc := 48) [(5, .int (0 : Int32)), (0, .ref b0), (1, .int b1), (2, .int b2), (3, .int b3), (4, .int b4)] d_M_count_48 (Nat.le_of_ble_eq_true rfl) rfl ?_
    refine g_lv [1, 2, 3, 4, 5, 0] rfl ?_
    exact t_M_count_50  FU _ _ _ _ _ _ _ _ _  hf
  · replace hf := (if_neg c12).symm.trans hf
    refine g_iload_n (pc := 19) 2 d_M_count_19 rfl rfl ?_
    refine g_aload_n (pc := 20) 0 d_M_count_20 rfl rfl ?_
    refine g_iload (pc := 21) 5 d_M_count_21 rfl ?_
    obtain ⟨u4, e3, hf⟩ := bd1_e hf
    obtain ⟨x7, h5, e6, hf⟩ := bd2_e hf
    refine g_callV (pc := 23) (ci := 8) [.int b5] (site_of si_M_allBy (by decide) (by decide)) wd_1176 wd_1178 wp_53 d_M_count_23 rfl e3 (Nat.le_of_ble_eq_true rfl) (fun z => absurd z (by decide)) (fun z => absurd z (by decide)) (fun z => absurd z (by decide)) (c_M_allBy e6) rfl ?_
    refine g_st [.int x7, .int b2] rfl ?_
    refine g_iadd (pc := 26) d_M_count_26 ?_
    refine g_istore_n (pc := 27) [(2, .int (b2 + x7)), (0, .ref b0), (1, .int b1), (3, .int b3), (4, .int b4), (5, .int b5)] d_M_count_27 rfl (Nat.le_of_ble_eq_true rfl) rfl ?_
    refine g_iload_n (pc := 28) 3 d_M_count_28 rfl rfl ?_
    refine g_aload_n (pc := 29) 1 d_M_count_29 rfl rfl ?_
    obtain ⟨x8, e9, hf⟩ := bd1_e hf
    refine g_get (pc := 30) (ci := 8) (kk := 0) d_M_count_30 rfl in_M (by decide) wd_938 (gR_spec e9) ?_
    refine g_bipush (pc := 33) (15 : Int32) d_M_count_33 (by decide) ?_
    refine g_iload (pc := 35) 5 d_M_count_35 rfl ?_
    refine g_iadd (pc := 37) d_M_count_37 ?_
    obtain ⟨x10, e11, hf⟩ := bd1_e hf
    refine g_iald (pc := 38) d_M_count_38 e11 ?_
    refine g_iadd (pc := 39) d_M_count_39 ?_
    refine g_istore_n (pc := 40) [(3, .int (b3 + x10)), (2, .int (b2 + x7)), (0, .ref b0), (1, .int b1), (4, .int b4), (5, .int b5)] d_M_count_40 rfl (Nat.le_of_ble_eq_true rfl) rfl ?_
    refine g_iinc (pc := 41) 5 (b5 + (1 : Int32)) [(5, .int (b5 + (1 : Int32))), (3, .int (b3 + x10)), (2, .int (b2 + x7)), (0, .ref b0), (1, .int b1), (4, .int b4)] d_M_count_41 rfl rfl (Nat.le_of_ble_eq_true rfl) rfl ?_
    refine g_goto (pc := 44) 10 d_M_count_44 (by decide) ?_
    refine g_lv [3, 4, 2, 1, 5, 0] rfl ?_
    exact hrec10 _ _ _ _ _ _ _ _ _  hf
def f_M_count_10  : Nat → Nat → Int32 → Int32 → Int32 → Int32 → Int32 → mH → Option (Int32 × mH)
  | 0 => fun _ _ _ _ _ _ _ => none
  | n + 1 => f_M_count_10b  (f_M_count_10  n)
theorem t_M_count_10 {sc : Nat × (Nat → Int32)}  : ∀ (n : Nat) (b0 : Nat) (b1 : Int32) (b2 : Int32) (b3 : Int32) (b4 : Int32) (b5 : Int32) (h : mH) (r : Int32) (h' : mH) (hf : f_M_count_10  n b0 b1 b2 b3 b4 b5 h = some (r, h')), G sc y_M_count prog_10_method_91_code 6 (some .int) 2 45 10 [(0, .ref b0), (1, .int b1), (2, .int b2), (3, .int b3), (4, .int b4), (5, .int b5)] [] h (some (.int r)) h'
  | 0, _, _, _, _, _, _, _, _, _, hf => by cases hf
  | n + 1, _, _, _, _, _, _, _, _, _, hf => t_M_count_10b  (f_M_count_10  n) (t_M_count_10  n) _ _ _ _ _ _ _ _ _ hf
def f_M_count_0  (a0 : Nat) (a1 : Int32) (h : mH) : Option (Int32 × mH) :=
  f_M_count_10  FU a0 a1 (0 : Int32) (0 : Int32) (0 : Int32) (0 : Int32) h
set_option maxRecDepth 20000 in
theorem t_M_count_0 {sc : Nat × (Nat → Int32)}  (a0 : Nat) (a1 : Int32) (h : mH) (r : Int32) (h' : mH) (hf : f_M_count_0  a0 a1 h = some (r, h')) : G sc y_M_count prog_10_method_91_code 6 (some .int) 2 45 0 [(0, .ref a0), (1, .int a1)] [] h (some (.int r)) h' := by
  unfold f_M_count_0 at hf
  refine g_iconst (pc := 0) (0 : Int32) d_M_count_0 (by decide) ?_
  refine g_istore_n (pc := 1) [(2, .int (0 : Int32)), (0, .ref a0), (1, .int a1)] d_M_count_1 rfl (Nat.le_of_ble_eq_true rfl) rfl ?_
  refine g_iconst (pc := 2) (0 : Int32) d_M_count_2 (by decide) ?_
  refine g_istore_n (pc := 3) [(3, .int (0 : Int32)), (2, .int (0 : Int32)), (0, .ref a0), (1, .int a1)] d_M_count_3 rfl (Nat.le_of_ble_eq_true rfl) rfl ?_
  refine g_iconst (pc := 4) (0 : Int32) d_M_count_4 (by decide) ?_
  refine g_istore (pc := 5) [(4, .int (0 : Int32)), (3, .int (0 : Int32)), (2, .int (0 : Int32)), (0, .ref a0), (1, .int a1)] d_M_count_5 (Nat.le_of_ble_eq_true rfl) rfl ?_
  refine g_iconst (pc := 7) (0 : Int32) d_M_count_7 (by decide) ?_
  refine g_istore (pc := 8) [(5, .int (0 : Int32)), (4, .int (0 : Int32)), (3, .int (0 : Int32)), (2, .int (0 : Int32)), (0, .ref a0), (1, .int a1)] d_M_count_8 (Nat.le_of_ble_eq_true rfl) rfl ?_
  refine g_lv [4, 5, 3, 2, 1, 0] rfl ?_
  exact t_M_count_10  FU _ _ _ _ _ _ _ _ _  hf
def f_M_count (a0 : Nat) (a1 : Int32) (h : mH) : Option (Int32 × mH) := f_M_count_0 a0 a1 h
theorem c_M_count {sc : Nat × (Nat → Int32)} {a0 : Nat} {a1 : Int32} {h : mH} {r : Int32} {h' : mH} (hf : f_M_count a0 a1 h = some (r, h')) : MM sc y_M_count prog_10_method_91_code 6 (some .int) 2 45 [.ref a0, .int a1] h (some (.int r)) h' :=
  mm_of_G (by decide) (Nat.le_of_ble_eq_true rfl) (t_M_count_0 _ _ _ _ _ hf)
