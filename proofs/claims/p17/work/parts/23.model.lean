/-! M returns ()V -/
set_option maxRecDepth 100000 in
theorem dd_M_returns_0 : (decode prog_10_method_66_code 0 = .ok (.iconst 0, 1)) ∧ (decode prog_10_method_66_code 1 = .ok (.istore_n 1, 1)) ∧ (decode prog_10_method_66_code 2 = .ok (.iload_n 1, 1)) ∧ (decode prog_10_method_66_code 3 = .ok (.bipush 66, 2)) ∧ (decode prog_10_method_66_code 5 = .ok (.if_icmp .ge 21, 3)) ∧ (decode prog_10_method_66_code 8 = .ok (.aload_n 0, 1)) ∧ (decode prog_10_method_66_code 9 = .ok (.getfield 7, 3)) ∧ (decode prog_10_method_66_code 12 = .ok (.iload_n 1, 1)) ∧ (decode prog_10_method_66_code 13 = .ok (.aload_n 0, 1)) ∧ (decode prog_10_method_66_code 14 = .ok (.getfield 65, 3)) ∧ (decode prog_10_method_66_code 17 = .ok (.iload_n 1, 1)) ∧ (decode prog_10_method_66_code 18 = .ok (.iaload, 1)) ∧ (decode prog_10_method_66_code 19 = .ok (.iastore, 1)) ∧ (decode prog_10_method_66_code 20 = .ok (.iinc 1 1, 3)) ∧ (decode prog_10_method_66_code 23 = .ok (.goto (-21), 3)) ∧ (decode prog_10_method_66_code 26 = .ok (.return_, 1)) := by
  have h : List.drop 0 prog_10_method_66_code.data.toList = 0x03 :: _ := rfl
  refine ⟨zq_k_n 3 h rfl (zq_o_3 _), ?_⟩
  replace h := zq_nx1 (q := 1) h rfl
  refine ⟨zq_k_n 60 h rfl (zq_o_60 _), ?_⟩
  replace h := zq_nx1 (q := 2) h rfl
  refine ⟨zq_k_n 27 h rfl (zq_o_27 _), ?_⟩
  replace h := zq_nx1 (q := 3) h rfl
  refine ⟨zq_k_s1 16 (fun z => .bipush z) 66 h rfl (zq_o_16 _) (by decide +kernel), ?_⟩
  replace h := zq_nx2 (q := 5) h rfl
  refine ⟨zq_k_s2 162 (fun z => .if_icmp .ge z) 21 h rfl (zq_o_162 _) (by decide +kernel), ?_⟩
  replace h := zq_nx3 (q := 8) h rfl
  refine ⟨zq_k_n 42 h rfl (zq_o_42 _), ?_⟩
  replace h := zq_nx1 (q := 9) h rfl
  refine ⟨zq_k_u2 180 (fun z => .getfield z) 7 h rfl (zq_o_180 _) (by decide +kernel), ?_⟩
  replace h := zq_nx3 (q := 12) h rfl
  refine ⟨zq_k_n 27 h rfl (zq_o_27 _), ?_⟩
  replace h := zq_nx1 (q := 13) h rfl
  refine ⟨zq_k_n 42 h rfl (zq_o_42 _), ?_⟩
  replace h := zq_nx1 (q := 14) h rfl
  refine ⟨zq_k_u2 180 (fun z => .getfield z) 65 h rfl (zq_o_180 _) (by decide +kernel), ?_⟩
  replace h := zq_nx3 (q := 17) h rfl
  refine ⟨zq_k_n 27 h rfl (zq_o_27 _), ?_⟩
  replace h := zq_nx1 (q := 18) h rfl
  refine ⟨zq_k_n 46 h rfl (zq_o_46 _), ?_⟩
  replace h := zq_nx1 (q := 19) h rfl
  refine ⟨zq_k_n 79 h rfl (zq_o_79 _), ?_⟩
  replace h := zq_nx1 (q := 20) h rfl
  refine ⟨zq_k_iinc 1 1 h rfl (zq_o_132 _) (by decide +kernel) (by decide +kernel), ?_⟩
  replace h := zq_nx3 (q := 23) h rfl
  refine ⟨zq_k_s2 167 (fun z => .goto z) (-21) h rfl (zq_o_167 _) (by decide +kernel), ?_⟩
  replace h := zq_nx3 (q := 26) h rfl
  exact zq_k_n 177 h rfl (zq_o_177 _)
theorem d_M_returns_0 : decode prog_10_method_66_code 0 = .ok (.iconst 0, 1) := dd_M_returns_0.1
theorem d_M_returns_1 : decode prog_10_method_66_code 1 = .ok (.istore_n 1, 1) := dd_M_returns_0.2.1
theorem d_M_returns_2 : decode prog_10_method_66_code 2 = .ok (.iload_n 1, 1) := dd_M_returns_0.2.2.1
theorem d_M_returns_3 : decode prog_10_method_66_code 3 = .ok (.bipush 66, 2) := dd_M_returns_0.2.2.2.1
theorem d_M_returns_5 : decode prog_10_method_66_code 5 = .ok (.if_icmp .ge 21, 3) := dd_M_returns_0.2.2.2.2.1
theorem d_M_returns_8 : decode prog_10_method_66_code 8 = .ok (.aload_n 0, 1) := dd_M_returns_0.2.2.2.2.2.1
theorem d_M_returns_9 : decode prog_10_method_66_code 9 = .ok (.getfield 7, 3) := dd_M_returns_0.2.2.2.2.2.2.1
theorem d_M_returns_12 : decode prog_10_method_66_code 12 = .ok (.iload_n 1, 1) := dd_M_returns_0.2.2.2.2.2.2.2.1
theorem d_M_returns_13 : decode prog_10_method_66_code 13 = .ok (.aload_n 0, 1) := dd_M_returns_0.2.2.2.2.2.2.2.2.1
theorem d_M_returns_14 : decode prog_10_method_66_code 14 = .ok (.getfield 65, 3) := dd_M_returns_0.2.2.2.2.2.2.2.2.2.1
theorem d_M_returns_17 : decode prog_10_method_66_code 17 = .ok (.iload_n 1, 1) := dd_M_returns_0.2.2.2.2.2.2.2.2.2.2.1
theorem d_M_returns_18 : decode prog_10_method_66_code 18 = .ok (.iaload, 1) := dd_M_returns_0.2.2.2.2.2.2.2.2.2.2.2.1
theorem d_M_returns_19 : decode prog_10_method_66_code 19 = .ok (.iastore, 1) := dd_M_returns_0.2.2.2.2.2.2.2.2.2.2.2.2.1
theorem d_M_returns_20 : decode prog_10_method_66_code 20 = .ok (.iinc 1 1, 3) := dd_M_returns_0.2.2.2.2.2.2.2.2.2.2.2.2.2.1
theorem d_M_returns_23 : decode prog_10_method_66_code 23 = .ok (.goto (-21), 3) := dd_M_returns_0.2.2.2.2.2.2.2.2.2.2.2.2.2.2.1
theorem d_M_returns_26 : decode prog_10_method_66_code 26 = .ok (.return_, 1) := dd_M_returns_0.2.2.2.2.2.2.2.2.2.2.2.2.2.2.2
def f_M_returns_2b (rec2 : Nat → Int32 → mH → Option mH) (b0 : Nat) (b1 : Int32) (h : mH) : Option mH :=
  if (66 : Int32) ≤ b1 then
    some h
  else
    bd1 (gR h b0 8 0) fun x1 =>
    bd1 (gR h b0 8 31) fun x3 =>
    bd1 (aI h 0 x3 b1) fun x5 =>
    bd1 (sI h 0 x1 b1 x5) fun h7 =>
    rec2 b0 (b1 + (1 : Int32)) h7
set_option maxRecDepth 20000 in
theorem t_M_returns_2b {sc : Nat × (Nat → Int32)} (rec2 : Nat → Int32 → mH → Option mH) (hrec2 : ∀ (b0 : Nat) (b1 : Int32) (h : mH) (h' : mH), rec2 b0 b1 h = some h' → G sc y_M_returns prog_10_method_66_code 2 none 0 0 2 [(0, .ref b0), (1, .int b1)] [] h none h') (b0 : Nat) (b1 : Int32) (h : mH) (h' : mH) (hf : f_M_returns_2b rec2 b0 b1 h = some h') : G sc y_M_returns prog_10_method_66_code 2 none 0 0 2 [(0, .ref b0), (1, .int b1)] [] h none h' := by
  unfold f_M_returns_2b at hf
  refine g_iload_n (pc := 2) 1 d_M_returns_2 rfl rfl ?_
  refine g_bipush (pc := 3) (66 : Int32) d_M_returns_3 (by decide) ?_
  refine g_icmpge (pc := 5) 26 d_M_returns_5 (by decide) (fun c9 => ?_) (fun c9 => ?_)
  · replace hf := (if_pos c9).symm.trans hf
    obtain rfl := ret1 hf
    exact g_vret (pc := 26) rfl d_M_returns_26
  · replace hf := (if_neg c9).symm.trans hf
    refine g_aload_n (pc := 8) 0 d_M_returns_8 rfl rfl ?_
    obtain ⟨x1, e2, hf⟩ := bd1_e hf
    refine g_get (pc := 9) (ci := 8) (kk := 0) d_M_returns_9 rfl in_M (by decide) wd_938 (gR_spec e2) ?_
    refine g_iload_n (pc := 12) 1 d_M_returns_12 rfl rfl ?_
    refine g_aload_n (pc := 13) 0 d_M_returns_13 rfl rfl ?_
    obtain ⟨x3, e4, hf⟩ := bd1_e hf
    refine g_get (pc := 14) (ci := 8) (kk := 31) d_M_returns_14 rfl in_M (by decide) wd_969 (gR_spec e4) ?_
    refine g_iload_n (pc := 17) 1 d_M_returns_17 rfl rfl ?_
    obtain ⟨x5, e6, hf⟩ := bd1_e hf
    refine g_iald (pc := 18) d_M_returns_18 e6 ?_
    obtain ⟨h7, e8, hf⟩ := bd1_e hf
    refine g_iast (pc := 19) d_M_returns_19 e8 ?_
    refine g_iinc (pc := 20) 1 (b1 + (1 : Int32)) [(1, .int (b1 + (1 : Int32))), (0, .ref b0)] d_M_returns_20 rfl rfl (Nat.le_of_ble_eq_true rfl) rfl ?_
    refine g_goto (pc := 23) 2 d_M_returns_23 (by decide) ?_
    refine g_lv [1, 0] rfl ?_
    exact hrec2 _ _ _ _  hf
def f_M_returns_2  : Nat → Nat → Int32 → mH → Option mH
  | 0 => fun _ _ _ => none
  | n + 1 => f_M_returns_2b  (f_M_returns_2  n)
theorem t_M_returns_2 {sc : Nat × (Nat → Int32)}  : ∀ (n : Nat) (b0 : Nat) (b1 : Int32) (h : mH) (h' : mH) (hf : f_M_returns_2  n b0 b1 h = some h'), G sc y_M_returns prog_10_method_66_code 2 none 0 0 2 [(0, .ref b0), (1, .int b1)] [] h none h'
  | 0, _, _, _, _, hf => by cases hf
  | n + 1, _, _, _, _, hf => t_M_returns_2b  (f_M_returns_2  n) (t_M_returns_2  n) _ _ _ _ hf
def f_M_returns_0  (a0 : Nat) (h : mH) : Option mH :=
  f_M_returns_2  FU a0 (0 : Int32) h
set_option maxRecDepth 20000 in
theorem t_M_returns_0 {sc : Nat × (Nat → Int32)}  (a0 : Nat) (h : mH) (h' : mH) (hf : f_M_returns_0  a0 h = some h') : G sc y_M_returns prog_10_method_66_code 2 none 0 0 0 [(0, .ref a0)] [] h none h' := by
  unfold f_M_returns_0 at hf
  refine g_iconst (pc := 0) (0 : Int32) d_M_returns_0 (by decide) ?_
  refine g_istore_n (pc := 1) [(1, .int (0 : Int32)), (0, .ref a0)] d_M_returns_1 rfl (Nat.le_of_ble_eq_true rfl) rfl ?_
  refine g_lv [1, 0] rfl ?_
  exact t_M_returns_2  FU _ _ _ _  hf
def f_M_returns (a0 : Nat) (h : mH) : Option mH := f_M_returns_0 a0 h
theorem c_M_returns {sc : Nat × (Nat → Int32)} {a0 : Nat} {h : mH} {h' : mH} (hf : f_M_returns a0 h = some h') : MM sc y_M_returns prog_10_method_66_code 2 none 0 0 [.ref a0] h none h' :=
  mm_of_G (by decide) (Nat.le_of_ble_eq_true rfl) (t_M_returns_0 _ _ _ hf)
/-! M selfish (I)I -/
set_option maxRecDepth 100000 in
theorem dd_M_selfish_0 : (decode prog_10_method_68_code 0 = .ok (.iload_n 1, 1)) ∧ (decode prog_10_method_68_code 1 = .ok (.i2l, 1)) ∧ (decode prog_10_method_68_code 2 = .ok (.lconst 0, 1)) ∧ (decode prog_10_method_68_code 3 = .ok (.ldc2_w 273, 3)) ∧ (decode prog_10_method_68_code 6 = .ok (.invokestatic 114, 3)) ∧ (decode prog_10_method_68_code 9 = .ok (.ifCond .ne 5, 3)) ∧ (decode prog_10_method_68_code 12 = .ok (.iconst (-1), 1)) ∧ (decode prog_10_method_68_code 13 = .ok (.ireturn, 1)) ∧ (decode prog_10_method_68_code 14 = .ok (.aload_n 0, 1)) ∧ (decode prog_10_method_68_code 15 = .ok (.invokevirtual 275, 3)) ∧ (decode prog_10_method_68_code 18 = .ok (.iconst 0, 1)) ∧ (decode prog_10_method_68_code 19 = .ok (.istore_n 2, 1)) ∧ (decode prog_10_method_68_code 20 = .ok (.iconst 0, 1)) ∧ (decode prog_10_method_68_code 21 = .ok (.istore_n 3, 1)) ∧ (decode prog_10_method_68_code 22 = .ok (.iconst 1, 1)) ∧ (decode prog_10_method_68_code 23 = .ok (.istore 4, 2)) ∧ (decode prog_10_method_68_code 25 = .ok (.iload 4, 2)) ∧ (decode prog_10_method_68_code 27 = .ok (.ifCond .eq 85, 3)) ∧ (decode prog_10_method_68_code 30 = .ok (.iconst 0, 1)) ∧ (decode prog_10_method_68_code 31 = .ok (.istore 4, 2)) ∧ (decode prog_10_method_68_code 33 = .ok (.iconst 0, 1)) ∧ (decode prog_10_method_68_code 34 = .ok (.istore 5, 2)) ∧ (decode prog_10_method_68_code 36 = .ok (.iload 5, 2)) ∧ (decode prog_10_method_68_code 38 = .ok (.aload_n 0, 1)) := by
  have h : List.drop 0 prog_10_method_68_code.data.toList = 0x1b :: _ := rfl
  refine ⟨zq_k_n 27 h rfl (zq_o_27 _), ?_⟩
  replace h := zq_nx1 (q := 1) h rfl
  refine ⟨zq_k_n 133 h rfl (zq_o_133 _), ?_⟩
  replace h := zq_nx1 (q := 2) h rfl
  refine ⟨zq_k_n 9 h rfl (zq_o_9 _), ?_⟩
  replace h := zq_nx1 (q := 3) h rfl
  refine ⟨zq_k_u2 20 (fun z => .ldc2_w z) 273 h rfl (zq_o_20 _) (by decide +kernel), ?_⟩
  replace h := zq_nx3 (q := 6) h rfl
  refine ⟨zq_k_u2 184 (fun z => .invokestatic z) 114 h rfl (zq_o_184 _) (by decide +kernel), ?_⟩
  replace h := zq_nx3 (q := 9) h rfl
  refine ⟨zq_k_s2 154 (fun z => .ifCond .ne z) 5 h rfl (zq_o_154 _) (by decide +kernel), ?_⟩
  replace h := zq_nx3 (q := 12) h rfl
  refine ⟨zq_k_n 2 h rfl (zq_o_2 _), ?_⟩
  replace h := zq_nx1 (q := 13) h rfl
  refine ⟨zq_k_n 172 h rfl (zq_o_172 _), ?_⟩
  replace h := zq_nx1 (q := 14) h rfl
  refine ⟨zq_k_n 42 h rfl (zq_o_42 _), ?_⟩
  replace h := zq_nx1 (q := 15) h rfl
  refine ⟨zq_k_u2 182 (fun z => .invokevirtual z) 275 h rfl (zq_o_182 _) (by decide +kernel), ?_⟩
  replace h := zq_nx3 (q := 18) h rfl
  refine ⟨zq_k_n 3 h rfl (zq_o_3 _), ?_⟩
  replace h := zq_nx1 (q := 19) h rfl
  refine ⟨zq_k_n 61 h rfl (zq_o_61 _), ?_⟩
  replace h := zq_nx1 (q := 20) h rfl
  refine ⟨zq_k_n 3 h rfl (zq_o_3 _), ?_⟩
  replace h := zq_nx1 (q := 21) h rfl
  refine ⟨zq_k_n 62 h rfl (zq_o_62 _), ?_⟩
  replace h := zq_nx1 (q := 22) h rfl
  refine ⟨zq_k_n 4 h rfl (zq_o_4 _), ?_⟩
  replace h := zq_nx1 (q := 23) h rfl
  refine ⟨zq_k_u1 54 (fun z => .istore z) 4 h rfl (zq_o_54 _) (by decide +kernel), ?_⟩
  replace h := zq_nx2 (q := 25) h rfl
  refine ⟨zq_k_u1 21 (fun z => .iload z) 4 h rfl (zq_o_21 _) (by decide +kernel), ?_⟩
  replace h := zq_nx2 (q := 27) h rfl
  refine ⟨zq_k_s2 153 (fun z => .ifCond .eq z) 85 h rfl (zq_o_153 _) (by decide +kernel), ?_⟩
  replace h := zq_nx3 (q := 30) h rfl
  refine ⟨zq_k_n 3 h rfl (zq_o_3 _), ?_⟩
  replace h := zq_nx1 (q := 31) h rfl
  refine ⟨zq_k_u1 54 (fun z => .istore z) 4 h rfl (zq_o_54 _) (by decide +kernel), ?_⟩
  replace h := zq_nx2 (q := 33) h rfl
  refine ⟨zq_k_n 3 h rfl (zq_o_3 _), ?_⟩
  replace h := zq_nx1 (q := 34) h rfl
  refine ⟨zq_k_u1 54 (fun z => .istore z) 5 h rfl (zq_o_54 _) (by decide +kernel), ?_⟩
  replace h := zq_nx2 (q := 36) h rfl
  refine ⟨zq_k_u1 21 (fun z => .iload z) 5 h rfl (zq_o_21 _) (by decide +kernel), ?_⟩
  replace h := zq_nx2 (q := 38) h rfl
  exact zq_k_n 42 h rfl (zq_o_42 _)
theorem d_M_selfish_0 : decode prog_10_method_68_code 0 = .ok (.iload_n 1, 1) := dd_M_selfish_0.1
theorem d_M_selfish_1 : decode prog_10_method_68_code 1 = .ok (.i2l, 1) := dd_M_selfish_0.2.1
theorem d_M_selfish_2 : decode prog_10_method_68_code 2 = .ok (.lconst 0, 1) := dd_M_selfish_0.2.2.1
theorem d_M_selfish_3 : decode prog_10_method_68_code 3 = .ok (.ldc2_w 273, 3) := dd_M_selfish_0.2.2.2.1
theorem d_M_selfish_6 : decode prog_10_method_68_code 6 = .ok (.invokestatic 114, 3) := dd_M_selfish_0.2.2.2.2.1
theorem d_M_selfish_9 : decode prog_10_method_68_code 9 = .ok (.ifCond .ne 5, 3) := dd_M_selfish_0.2.2.2.2.2.1
theorem d_M_selfish_12 : decode prog_10_method_68_code 12 = .ok (.iconst (-1), 1) := dd_M_selfish_0.2.2.2.2.2.2.1
theorem d_M_selfish_13 : decode prog_10_method_68_code 13 = .ok (.ireturn, 1) := dd_M_selfish_0.2.2.2.2.2.2.2.1
theorem d_M_selfish_14 : decode prog_10_method_68_code 14 = .ok (.aload_n 0, 1) := dd_M_selfish_0.2.2.2.2.2.2.2.2.1
theorem d_M_selfish_15 : decode prog_10_method_68_code 15 = .ok (.invokevirtual 275, 3) := dd_M_selfish_0.2.2.2.2.2.2.2.2.2.1
theorem d_M_selfish_18 : decode prog_10_method_68_code 18 = .ok (.iconst 0, 1) := dd_M_selfish_0.2.2.2.2.2.2.2.2.2.2.1
theorem d_M_selfish_19 : decode prog_10_method_68_code 19 = .ok (.istore_n 2, 1) := dd_M_selfish_0.2.2.2.2.2.2.2.2.2.2.2.1
theorem d_M_selfish_20 : decode prog_10_method_68_code 20 = .ok (.iconst 0, 1) := dd_M_selfish_0.2.2.2.2.2.2.2.2.2.2.2.2.1
theorem d_M_selfish_21 : decode prog_10_method_68_code 21 = .ok (.istore_n 3, 1) := dd_M_selfish_0.2.2.2.2.2.2.2.2.2.2.2.2.2.1
theorem d_M_selfish_22 : decode prog_10_method_68_code 22 = .ok (.iconst 1, 1) := dd_M_selfish_0.2.2.2.2.2.2.2.2.2.2.2.2.2.2.1
theorem d_M_selfish_23 : decode prog_10_method_68_code 23 = .ok (.istore 4, 2) := dd_M_selfish_0.2.2.2.2.2.2.2.2.2.2.2.2.2.2.2.1
theorem d_M_selfish_25 : decode prog_10_method_68_code 25 = .ok (.iload 4, 2) := dd_M_selfish_0.2.2.2.2.2.2.2.2.2.2.2.2.2.2.2.2.1
theorem d_M_selfish_27 : decode prog_10_method_68_code 27 = .ok (.ifCond .eq 85, 3) := dd_M_selfish_0.2.2.2.2.2.2.2.2.2.2.2.2.2.2.2.2.2.1
theorem d_M_selfish_30 : decode prog_10_method_68_code 30 = .ok (.iconst 0, 1) := dd_M_selfish_0.2.2.2.2.2.2.2.2.2.2.2.2.2.2.2.2.2.2.1
theorem d_M_selfish_31 : decode prog_10_method_68_code 31 = .ok (.istore 4, 2) := dd_M_selfish_0.2.2.2.2.2.2.2.2.2.2.2.2.2.2.2.2.2.2.2.1
theorem d_M_selfish_33 : decode prog_10_method_68_code 33 = .ok (.iconst 0, 1) := dd_M_selfish_0.2.2.2.2.2.2.2.2.2.2.2.2.2.2.2.2.2.2.2.2.1
theorem d_M_selfish_34 : decode prog_10_method_68_code 34 = .ok (.istore 5, 2) := dd_M_selfish_0.2.2.2.2.2.2.2.2.2.2.2.2.2.2.2.2.2.2.2.2.2.1
theorem d_M_selfish_36 : decode prog_10_method_68_code 36 = .ok (.iload 5, 2) := dd_M_selfish_0.2.2.2.2.2.2.2.2.2.2.2.2.2.2.2.2.2.2.2.2.2.2.1
theorem d_M_selfish_38 : decode prog_10_method_68_code 38 = .ok (.aload_n 0, 1) := dd_M_selfish_0.2.2.2.2.2.2.2.2.2.2.2.2.2.2.2.2.2.2.2.2.2.2.2
set_option maxRecDepth 100000 in
theorem dd_M_selfish_39 : (decode prog_10_method_68_code 39 = .ok (.getfield 109, 3)) ∧ (decode prog_10_method_68_code 42 = .ok (.if_icmp .ge 67, 3)) ∧ (decode prog_10_method_68_code 45 = .ok (.aload_n 0, 1)) ∧ (decode prog_10_method_68_code 46 = .ok (.iload 5, 2)) ∧ (decode prog_10_method_68_code 48 = .ok (.invokevirtual 278, 3)) ∧ (decode prog_10_method_68_code 51 = .ok (.istore 6, 2)) ∧ (decode prog_10_method_68_code 53 = .ok (.iload 6, 2)) ∧ (decode prog_10_method_68_code 55 = .ok (.bipush (-4), 2)) ∧ (decode prog_10_method_68_code 57 = .ok (.if_icmp .eq 46, 3)) ∧ (decode prog_10_method_68_code 60 = .ok (.aload_n 0, 1)) ∧ (decode prog_10_method_68_code 61 = .ok (.getfield 7, 3)) ∧ (decode prog_10_method_68_code 64 = .ok (.bipush 24, 2)) ∧ (decode prog_10_method_68_code 66 = .ok (.iconst 5, 1)) ∧ (decode prog_10_method_68_code 67 = .ok (.iload 5, 2)) ∧ (decode prog_10_method_68_code 69 = .ok (.imul, 1)) ∧ (decode prog_10_method_68_code 70 = .ok (.iadd, 1)) ∧ (decode prog_10_method_68_code 71 = .ok (.iload 6, 2)) ∧ (decode prog_10_method_68_code 73 = .ok (.iadd, 1)) ∧ (decode prog_10_method_68_code 74 = .ok (.dup2, 1)) ∧ (decode prog_10_method_68_code 75 = .ok (.iaload, 1)) ∧ (decode prog_10_method_68_code 76 = .ok (.iconst 1, 1)) ∧ (decode prog_10_method_68_code 77 = .ok (.iadd, 1)) ∧ (decode prog_10_method_68_code 78 = .ok (.iastore, 1)) ∧ (decode prog_10_method_68_code 79 = .ok (.iinc 2 1, 3)) := by
  have h : List.drop 39 prog_10_method_68_code.data.toList = 0xb4 :: _ := rfl
  refine ⟨zq_k_u2 180 (fun z => .getfield z) 109 h rfl (zq_o_180 _) (by decide +kernel), ?_⟩
  replace h := zq_nx3 (q := 42) h rfl
  refine ⟨zq_k_s2 162 (fun z => .if_icmp .ge z) 67 h rfl (zq_o_162 _) (by decide +kernel), ?_⟩
  replace h := zq_nx3 (q := 45) h rfl
  refine ⟨zq_k_n 42 h rfl (zq_o_42 _), ?_⟩
  replace h := zq_nx1 (q := 46) h rfl
  refine ⟨zq_k_u1 21 (fun z => .iload z) 5 h rfl (zq_o_21 _) (by decide +kernel), ?_⟩
  replace h := zq_nx2 (q := 48) h rfl
  refine ⟨zq_k_u2 182 (fun z => .invokevirtual z) 278 h rfl (zq_o_182 _) (by decide +kernel), ?_⟩
  replace h := zq_nx3 (q := 51) h rfl
  refine ⟨zq_k_u1 54 (fun z => .istore z) 6 h rfl (zq_o_54 _) (by decide +kernel), ?_⟩
  replace h := zq_nx2 (q := 53) h rfl
  refine ⟨zq_k_u1 21 (fun z => .iload z) 6 h rfl (zq_o_21 _) (by decide +kernel), ?_⟩
  replace h := zq_nx2 (q := 55) h rfl
  refine ⟨zq_k_s1 16 (fun z => .bipush z) (-4) h rfl (zq_o_16 _) (by decide +kernel), ?_⟩
  replace h := zq_nx2 (q := 57) h rfl
  refine ⟨zq_k_s2 159 (fun z => .if_icmp .eq z) 46 h rfl (zq_o_159 _) (by decide +kernel), ?_⟩
  replace h := zq_nx3 (q := 60) h rfl
  refine ⟨zq_k_n 42 h rfl (zq_o_42 _), ?_⟩
  replace h := zq_nx1 (q := 61) h rfl
  refine ⟨zq_k_u2 180 (fun z => .getfield z) 7 h rfl (zq_o_180 _) (by decide +kernel), ?_⟩
  replace h := zq_nx3 (q := 64) h rfl
  refine ⟨zq_k_s1 16 (fun z => .bipush z) 24 h rfl (zq_o_16 _) (by decide +kernel), ?_⟩
  replace h := zq_nx2 (q := 66) h rfl
  refine ⟨zq_k_n 8 h rfl (zq_o_8 _), ?_⟩
  replace h := zq_nx1 (q := 67) h rfl
  refine ⟨zq_k_u1 21 (fun z => .iload z) 5 h rfl (zq_o_21 _) (by decide +kernel), ?_⟩
  replace h := zq_nx2 (q := 69) h rfl
  refine ⟨zq_k_n 104 h rfl (zq_o_104 _), ?_⟩
  replace h := zq_nx1 (q := 70) h rfl
  refine ⟨zq_k_n 96 h rfl (zq_o_96 _), ?_⟩
  replace h := zq_nx1 (q := 71) h rfl
  refine ⟨zq_k_u1 21 (fun z => .iload z) 6 h rfl (zq_o_21 _) (by decide +kernel), ?_⟩
  replace h := zq_nx2 (q := 73) h rfl
  refine ⟨zq_k_n 96 h rfl (zq_o_96 _), ?_⟩
  replace h := zq_nx1 (q := 74) h rfl
  refine ⟨zq_k_n 92 h rfl (zq_o_92 _), ?_⟩
  replace h := zq_nx1 (q := 75) h rfl
  refine ⟨zq_k_n 46 h rfl (zq_o_46 _), ?_⟩
  replace h := zq_nx1 (q := 76) h rfl
  refine ⟨zq_k_n 4 h rfl (zq_o_4 _), ?_⟩
  replace h := zq_nx1 (q := 77) h rfl
  refine ⟨zq_k_n 96 h rfl (zq_o_96 _), ?_⟩
  replace h := zq_nx1 (q := 78) h rfl
  refine ⟨zq_k_n 79 h rfl (zq_o_79 _), ?_⟩
  replace h := zq_nx1 (q := 79) h rfl
  exact zq_k_iinc 2 1 h rfl (zq_o_132 _) (by decide +kernel) (by decide +kernel)
theorem d_M_selfish_39 : decode prog_10_method_68_code 39 = .ok (.getfield 109, 3) := dd_M_selfish_39.1
theorem d_M_selfish_42 : decode prog_10_method_68_code 42 = .ok (.if_icmp .ge 67, 3) := dd_M_selfish_39.2.1
theorem d_M_selfish_45 : decode prog_10_method_68_code 45 = .ok (.aload_n 0, 1) := dd_M_selfish_39.2.2.1
theorem d_M_selfish_46 : decode prog_10_method_68_code 46 = .ok (.iload 5, 2) := dd_M_selfish_39.2.2.2.1
theorem d_M_selfish_48 : decode prog_10_method_68_code 48 = .ok (.invokevirtual 278, 3) := dd_M_selfish_39.2.2.2.2.1
theorem d_M_selfish_51 : decode prog_10_method_68_code 51 = .ok (.istore 6, 2) := dd_M_selfish_39.2.2.2.2.2.1
theorem d_M_selfish_53 : decode prog_10_method_68_code 53 = .ok (.iload 6, 2) := dd_M_selfish_39.2.2.2.2.2.2.1
theorem d_M_selfish_55 : decode prog_10_method_68_code 55 = .ok (.bipush (-4), 2) := dd_M_selfish_39.2.2.2.2.2.2.2.1
theorem d_M_selfish_57 : decode prog_10_method_68_code 57 = .ok (.if_icmp .eq 46, 3) := dd_M_selfish_39.2.2.2.2.2.2.2.2.1
theorem d_M_selfish_60 : decode prog_10_method_68_code 60 = .ok (.aload_n 0, 1) := dd_M_selfish_39.2.2.2.2.2.2.2.2.2.1
theorem d_M_selfish_61 : decode prog_10_method_68_code 61 = .ok (.getfield 7, 3) := dd_M_selfish_39.2.2.2.2.2.2.2.2.2.2.1
theorem d_M_selfish_64 : decode prog_10_method_68_code 64 = .ok (.bipush 24, 2) := dd_M_selfish_39.2.2.2.2.2.2.2.2.2.2.2.1
theorem d_M_selfish_66 : decode prog_10_method_68_code 66 = .ok (.iconst 5, 1) := dd_M_selfish_39.2.2.2.2.2.2.2.2.2.2.2.2.1
theorem d_M_selfish_67 : decode prog_10_method_68_code 67 = .ok (.iload 5, 2) := dd_M_selfish_39.2.2.2.2.2.2.2.2.2.2.2.2.2.1
theorem d_M_selfish_69 : decode prog_10_method_68_code 69 = .ok (.imul, 1) := dd_M_selfish_39.2.2.2.2.2.2.2.2.2.2.2.2.2.2.1
theorem d_M_selfish_70 : decode prog_10_method_68_code 70 = .ok (.iadd, 1) := dd_M_selfish_39.2.2.2.2.2.2.2.2.2.2.2.2.2.2.2.1
theorem d_M_selfish_71 : decode prog_10_method_68_code 71 = .ok (.iload 6, 2) := dd_M_selfish_39.2.2.2.2.2.2.2.2.2.2.2.2.2.2.2.2.1
theorem d_M_selfish_73 : decode prog_10_method_68_code 73 = .ok (.iadd, 1) := dd_M_selfish_39.2.2.2.2.2.2.2.2.2.2.2.2.2.2.2.2.2.1
theorem d_M_selfish_74 : decode prog_10_method_68_code 74 = .ok (.dup2, 1) := dd_M_selfish_39.2.2.2.2.2.2.2.2.2.2.2.2.2.2.2.2.2.2.1
theorem d_M_selfish_75 : decode prog_10_method_68_code 75 = .ok (.iaload, 1) := dd_M_selfish_39.2.2.2.2.2.2.2.2.2.2.2.2.2.2.2.2.2.2.2.1
theorem d_M_selfish_76 : decode prog_10_method_68_code 76 = .ok (.iconst 1, 1) := dd_M_selfish_39.2.2.2.2.2.2.2.2.2.2.2.2.2.2.2.2.2.2.2.2.1
theorem d_M_selfish_77 : decode prog_10_method_68_code 77 = .ok (.iadd, 1) := dd_M_selfish_39.2.2.2.2.2.2.2.2.2.2.2.2.2.2.2.2.2.2.2.2.2.1
theorem d_M_selfish_78 : decode prog_10_method_68_code 78 = .ok (.iastore, 1) := dd_M_selfish_39.2.2.2.2.2.2.2.2.2.2.2.2.2.2.2.2.2.2.2.2.2.2.1
theorem d_M_selfish_79 : decode prog_10_method_68_code 79 = .ok (.iinc 2 1, 3) := dd_M_selfish_39.2.2.2.2.2.2.2.2.2.2.2.2.2.2.2.2.2.2.2.2.2.2.2
set_option maxRecDepth 100000 in
theorem dd_M_selfish_82 : (decode prog_10_method_68_code 82 = .ok (.iload_n 3, 1)) ∧ (decode prog_10_method_68_code 83 = .ok (.aload_n 0, 1)) ∧ (decode prog_10_method_68_code 84 = .ok (.getfield 20, 3)) ∧ (decode prog_10_method_68_code 87 = .ok (.iload 6, 2)) ∧ (decode prog_10_method_68_code 89 = .ok (.iaload, 1)) ∧ (decode prog_10_method_68_code 90 = .ok (.aload_n 0, 1)) ∧ (decode prog_10_method_68_code 91 = .ok (.getfield 26, 3)) ∧ (decode prog_10_method_68_code 94 = .ok (.iload 5, 2)) ∧ (decode prog_10_method_68_code 96 = .ok (.iaload, 1)) ∧ (decode prog_10_method_68_code 97 = .ok (.iadd, 1)) ∧ (decode prog_10_method_68_code 98 = .ok (.iadd, 1)) ∧ (decode prog_10_method_68_code 99 = .ok (.istore_n 3, 1)) ∧ (decode prog_10_method_68_code 100 = .ok (.iconst 1, 1)) ∧ (decode prog_10_method_68_code 101 = .ok (.istore 4, 2)) ∧ (decode prog_10_method_68_code 103 = .ok (.iinc 5 1, 3)) ∧ (decode prog_10_method_68_code 106 = .ok (.goto (-70), 3)) ∧ (decode prog_10_method_68_code 109 = .ok (.goto (-84), 3)) ∧ (decode prog_10_method_68_code 112 = .ok (.iconst 0, 1)) ∧ (decode prog_10_method_68_code 113 = .ok (.istore 5, 2)) ∧ (decode prog_10_method_68_code 115 = .ok (.iconst 0, 1)) ∧ (decode prog_10_method_68_code 116 = .ok (.istore 6, 2)) ∧ (decode prog_10_method_68_code 118 = .ok (.iload 6, 2)) ∧ (decode prog_10_method_68_code 120 = .ok (.aload_n 0, 1)) ∧ (decode prog_10_method_68_code 121 = .ok (.getfield 106, 3)) := by
  have h : List.drop 82 prog_10_method_68_code.data.toList = 0x1d :: _ := rfl
  refine ⟨zq_k_n 29 h rfl (zq_o_29 _), ?_⟩
  replace h := zq_nx1 (q := 83) h rfl
  refine ⟨zq_k_n 42 h rfl (zq_o_42 _), ?_⟩
  replace h := zq_nx1 (q := 84) h rfl
  refine ⟨zq_k_u2 180 (fun z => .getfield z) 20 h rfl (zq_o_180 _) (by decide +kernel), ?_⟩
  replace h := zq_nx3 (q := 87) h rfl
  refine ⟨zq_k_u1 21 (fun z => .iload z) 6 h rfl (zq_o_21 _) (by decide +kernel), ?_⟩
  replace h := zq_nx2 (q := 89) h rfl
  refine ⟨zq_k_n 46 h rfl (zq_o_46 _), ?_⟩
  replace h := zq_nx1 (q := 90) h rfl
  refine ⟨zq_k_n 42 h rfl (zq_o_42 _), ?_⟩
  replace h := zq_nx1 (q := 91) h rfl
  refine ⟨zq_k_u2 180 (fun z => .getfield z) 26 h rfl (zq_o_180 _) (by decide +kernel), ?_⟩
  replace h := zq_nx3 (q := 94) h rfl
  refine ⟨zq_k_u1 21 (fun z => .iload z) 5 h rfl (zq_o_21 _) (by decide +kernel), ?_⟩
  replace h := zq_nx2 (q := 96) h rfl
  refine ⟨zq_k_n 46 h rfl (zq_o_46 _), ?_⟩
  replace h := zq_nx1 (q := 97) h rfl
  refine ⟨zq_k_n 96 h rfl (zq_o_96 _), ?_⟩
  replace h := zq_nx1 (q := 98) h rfl
  refine ⟨zq_k_n 96 h rfl (zq_o_96 _), ?_⟩
  replace h := zq_nx1 (q := 99) h rfl
  refine ⟨zq_k_n 62 h rfl (zq_o_62 _), ?_⟩
  replace h := zq_nx1 (q := 100) h rfl
  refine ⟨zq_k_n 4 h rfl (zq_o_4 _), ?_⟩
  replace h := zq_nx1 (q := 101) h rfl
  refine ⟨zq_k_u1 54 (fun z => .istore z) 4 h rfl (zq_o_54 _) (by decide +kernel), ?_⟩
  replace h := zq_nx2 (q := 103) h rfl
  refine ⟨zq_k_iinc 5 1 h rfl (zq_o_132 _) (by decide +kernel) (by decide +kernel), ?_⟩
  replace h := zq_nx3 (q := 106) h rfl
  refine ⟨zq_k_s2 167 (fun z => .goto z) (-70) h rfl (zq_o_167 _) (by decide +kernel), ?_⟩
  replace h := zq_nx3 (q := 109) h rfl
  refine ⟨zq_k_s2 167 (fun z => .goto z) (-84) h rfl (zq_o_167 _) (by decide +kernel), ?_⟩
  replace h := zq_nx3 (q := 112) h rfl
  refine ⟨zq_k_n 3 h rfl (zq_o_3 _), ?_⟩
  replace h := zq_nx1 (q := 113) h rfl
  refine ⟨zq_k_u1 54 (fun z => .istore z) 5 h rfl (zq_o_54 _) (by decide +kernel), ?_⟩
  replace h := zq_nx2 (q := 115) h rfl
  refine ⟨zq_k_n 3 h rfl (zq_o_3 _), ?_⟩
  replace h := zq_nx1 (q := 116) h rfl
  refine ⟨zq_k_u1 54 (fun z => .istore z) 6 h rfl (zq_o_54 _) (by decide +kernel), ?_⟩
  replace h := zq_nx2 (q := 118) h rfl
  refine ⟨zq_k_u1 21 (fun z => .iload z) 6 h rfl (zq_o_21 _) (by decide +kernel), ?_⟩
  replace h := zq_nx2 (q := 120) h rfl
  refine ⟨zq_k_n 42 h rfl (zq_o_42 _), ?_⟩
  replace h := zq_nx1 (q := 121) h rfl
  exact zq_k_u2 180 (fun z => .getfield z) 106 h rfl (zq_o_180 _) (by decide +kernel)
theorem d_M_selfish_82 : decode prog_10_method_68_code 82 = .ok (.iload_n 3, 1) := dd_M_selfish_82.1
theorem d_M_selfish_83 : decode prog_10_method_68_code 83 = .ok (.aload_n 0, 1) := dd_M_selfish_82.2.1
theorem d_M_selfish_84 : decode prog_10_method_68_code 84 = .ok (.getfield 20, 3) := dd_M_selfish_82.2.2.1
theorem d_M_selfish_87 : decode prog_10_method_68_code 87 = .ok (.iload 6, 2) := dd_M_selfish_82.2.2.2.1
theorem d_M_selfish_89 : decode prog_10_method_68_code 89 = .ok (.iaload, 1) := dd_M_selfish_82.2.2.2.2.1
theorem d_M_selfish_90 : decode prog_10_method_68_code 90 = .ok (.aload_n 0, 1) := dd_M_selfish_82.2.2.2.2.2.1
theorem d_M_selfish_91 : decode prog_10_method_68_code 91 = .ok (.getfield 26, 3) := dd_M_selfish_82.2.2.2.2.2.2.1
theorem d_M_selfish_94 : decode prog_10_method_68_code 94 = .ok (.iload 5, 2) := dd_M_selfish_82.2.2.2.2.2.2.2.1
theorem d_M_selfish_96 : decode prog_10_method_68_code 96 = .ok (.iaload, 1) := dd_M_selfish_82.2.2.2.2.2.2.2.2.1
theorem d_M_selfish_97 : decode prog_10_method_68_code 97 = .ok (.iadd, 1) := dd_M_selfish_82.2.2.2.2.2.2.2.2.2.1
theorem d_M_selfish_98 : decode prog_10_method_68_code 98 = .ok (.iadd, 1) := dd_M_selfish_82.2.2.2.2.2.2.2.2.2.2.1
theorem d_M_selfish_99 : decode prog_10_method_68_code 99 = .ok (.istore_n 3, 1) := dd_M_selfish_82.2.2.2.2.2.2.2.2.2.2.2.1
theorem d_M_selfish_100 : decode prog_10_method_68_code 100 = .ok (.iconst 1, 1) := dd_M_selfish_82.2.2.2.2.2.2.2.2.2.2.2.2.1
theorem d_M_selfish_101 : decode prog_10_method_68_code 101 = .ok (.istore 4, 2) := dd_M_selfish_82.2.2.2.2.2.2.2.2.2.2.2.2.2.1
theorem d_M_selfish_103 : decode prog_10_method_68_code 103 = .ok (.iinc 5 1, 3) := dd_M_selfish_82.2.2.2.2.2.2.2.2.2.2.2.2.2.2.1
theorem d_M_selfish_106 : decode prog_10_method_68_code 106 = .ok (.goto (-70), 3) := dd_M_selfish_82.2.2.2.2.2.2.2.2.2.2.2.2.2.2.2.1
theorem d_M_selfish_109 : decode prog_10_method_68_code 109 = .ok (.goto (-84), 3) := dd_M_selfish_82.2.2.2.2.2.2.2.2.2.2.2.2.2.2.2.2.1
theorem d_M_selfish_112 : decode prog_10_method_68_code 112 = .ok (.iconst 0, 1) := dd_M_selfish_82.2.2.2.2.2.2.2.2.2.2.2.2.2.2.2.2.2.1
theorem d_M_selfish_113 : decode prog_10_method_68_code 113 = .ok (.istore 5, 2) := dd_M_selfish_82.2.2.2.2.2.2.2.2.2.2.2.2.2.2.2.2.2.2.1
theorem d_M_selfish_115 : decode prog_10_method_68_code 115 = .ok (.iconst 0, 1) := dd_M_selfish_82.2.2.2.2.2.2.2.2.2.2.2.2.2.2.2.2.2.2.2.1
theorem d_M_selfish_116 : decode prog_10_method_68_code 116 = .ok (.istore 6, 2) := dd_M_selfish_82.2.2.2.2.2.2.2.2.2.2.2.2.2.2.2.2.2.2.2.2.1
theorem d_M_selfish_118 : decode prog_10_method_68_code 118 = .ok (.iload 6, 2) := dd_M_selfish_82.2.2.2.2.2.2.2.2.2.2.2.2.2.2.2.2.2.2.2.2.2.1
theorem d_M_selfish_120 : decode prog_10_method_68_code 120 = .ok (.aload_n 0, 1) := dd_M_selfish_82.2.2.2.2.2.2.2.2.2.2.2.2.2.2.2.2.2.2.2.2.2.2.1
theorem d_M_selfish_121 : decode prog_10_method_68_code 121 = .ok (.getfield 106, 3) := dd_M_selfish_82.2.2.2.2.2.2.2.2.2.2.2.2.2.2.2.2.2.2.2.2.2.2.2
set_option maxRecDepth 100000 in
theorem dd_M_selfish_124 : (decode prog_10_method_68_code 124 = .ok (.if_icmp .ge 43, 3)) ∧ (decode prog_10_method_68_code 127 = .ok (.iload 5, 2)) ∧ (decode prog_10_method_68_code 129 = .ok (.aload_n 0, 1)) ∧ (decode prog_10_method_68_code 130 = .ok (.iload 6, 2)) ∧ (decode prog_10_method_68_code 132 = .ok (.invokevirtual 191, 3)) ∧ (decode prog_10_method_68_code 135 = .ok (.ifCond .eq 16, 3)) ∧ (decode prog_10_method_68_code 138 = .ok (.aload_n 0, 1)) ∧ (decode prog_10_method_68_code 139 = .ok (.iload 6, 2)) ∧ (decode prog_10_method_68_code 141 = .ok (.invokevirtual 204, 3)) ∧ (decode prog_10_method_68_code 144 = .ok (.ifCond .ne 7, 3)) ∧ (decode prog_10_method_68_code 147 = .ok (.iconst 1, 1)) ∧ (decode prog_10_method_68_code 148 = .ok (.goto 4, 3)) ∧ (decode prog_10_method_68_code 151 = .ok (.iconst 0, 1)) ∧ (decode prog_10_method_68_code 152 = .ok (.invokestatic 220, 3)) ∧ (decode prog_10_method_68_code 155 = .ok (.iload 6, 2)) ∧ (decode prog_10_method_68_code 157 = .ok (.ishl, 1)) ∧ (decode prog_10_method_68_code 158 = .ok (.ior, 1)) ∧ (decode prog_10_method_68_code 159 = .ok (.istore 5, 2)) ∧ (decode prog_10_method_68_code 161 = .ok (.iinc 6 1, 3)) ∧ (decode prog_10_method_68_code 164 = .ok (.goto (-46), 3)) ∧ (decode prog_10_method_68_code 167 = .ok (.aload_n 0, 1)) ∧ (decode prog_10_method_68_code 168 = .ok (.invokevirtual 281, 3)) ∧ (decode prog_10_method_68_code 171 = .ok (.iload_n 1, 1)) ∧ (decode prog_10_method_68_code 172 = .ok (.ifCond .ne 8, 3)) := by
  have h : List.drop 124 prog_10_method_68_code.data.toList = 0xa2 :: _ := rfl
  refine ⟨zq_k_s2 162 (fun z => .if_icmp .ge z) 43 h rfl (zq_o_162 _) (by decide +kernel), ?_⟩
  replace h := zq_nx3 (q := 127) h rfl
  refine ⟨zq_k_u1 21 (fun z => .iload z) 5 h rfl (zq_o_21 _) (by decide +kernel), ?_⟩
  replace h := zq_nx2 (q := 129) h rfl
  refine ⟨zq_k_n 42 h rfl (zq_o_42 _), ?_⟩
  replace h := zq_nx1 (q := 130) h rfl
  refine ⟨zq_k_u1 21 (fun z => .iload z) 6 h rfl (zq_o_21 _) (by decide +kernel), ?_⟩
  replace h := zq_nx2 (q := 132) h rfl
  refine ⟨zq_k_u2 182 (fun z => .invokevirtual z) 191 h rfl (zq_o_182 _) (by decide +kernel), ?_⟩
  replace h := zq_nx3 (q := 135) h rfl
  refine ⟨zq_k_s2 153 (fun z => .ifCond .eq z) 16 h rfl (zq_o_153 _) (by decide +kernel), ?_⟩
  replace h := zq_nx3 (q := 138) h rfl
  refine ⟨zq_k_n 42 h rfl (zq_o_42 _), ?_⟩
  replace h := zq_nx1 (q := 139) h rfl
  refine ⟨zq_k_u1 21 (fun z => .iload z) 6 h rfl (zq_o_21 _) (by decide +kernel), ?_⟩
  replace h := zq_nx2 (q := 141) h rfl
  refine ⟨zq_k_u2 182 (fun z => .invokevirtual z) 204 h rfl (zq_o_182 _) (by decide +kernel), ?_⟩
  replace h := zq_nx3 (q := 144) h rfl
  refine ⟨zq_k_s2 154 (fun z => .ifCond .ne z) 7 h rfl (zq_o_154 _) (by decide +kernel), ?_⟩
  replace h := zq_nx3 (q := 147) h rfl
  refine ⟨zq_k_n 4 h rfl (zq_o_4 _), ?_⟩
  replace h := zq_nx1 (q := 148) h rfl
  refine ⟨zq_k_s2 167 (fun z => .goto z) 4 h rfl (zq_o_167 _) (by decide +kernel), ?_⟩
  replace h := zq_nx3 (q := 151) h rfl
  refine ⟨zq_k_n 3 h rfl (zq_o_3 _), ?_⟩
  replace h := zq_nx1 (q := 152) h rfl
  refine ⟨zq_k_u2 184 (fun z => .invokestatic z) 220 h rfl (zq_o_184 _) (by decide +kernel), ?_⟩
  replace h := zq_nx3 (q := 155) h rfl
  refine ⟨zq_k_u1 21 (fun z => .iload z) 6 h rfl (zq_o_21 _) (by decide +kernel), ?_⟩
  replace h := zq_nx2 (q := 157) h rfl
  refine ⟨zq_k_n 120 h rfl (zq_o_120 _), ?_⟩
  replace h := zq_nx1 (q := 158) h rfl
  refine ⟨zq_k_n 128 h rfl (zq_o_128 _), ?_⟩
  replace h := zq_nx1 (q := 159) h rfl
  refine ⟨zq_k_u1 54 (fun z => .istore z) 5 h rfl (zq_o_54 _) (by decide +kernel), ?_⟩
  replace h := zq_nx2 (q := 161) h rfl
  refine ⟨zq_k_iinc 6 1 h rfl (zq_o_132 _) (by decide +kernel) (by decide +kernel), ?_⟩
  replace h := zq_nx3 (q := 164) h rfl
  refine ⟨zq_k_s2 167 (fun z => .goto z) (-46) h rfl (zq_o_167 _) (by decide +kernel), ?_⟩
  replace h := zq_nx3 (q := 167) h rfl
  refine ⟨zq_k_n 42 h rfl (zq_o_42 _), ?_⟩
  replace h := zq_nx1 (q := 168) h rfl
  refine ⟨zq_k_u2 182 (fun z => .invokevirtual z) 281 h rfl (zq_o_182 _) (by decide +kernel), ?_⟩
  replace h := zq_nx3 (q := 171) h rfl
  refine ⟨zq_k_n 27 h rfl (zq_o_27 _), ?_⟩
  replace h := zq_nx1 (q := 172) h rfl
  exact zq_k_s2 154 (fun z => .ifCond .ne z) 8 h rfl (zq_o_154 _) (by decide +kernel)
theorem d_M_selfish_124 : decode prog_10_method_68_code 124 = .ok (.if_icmp .ge 43, 3) := dd_M_selfish_124.1
theorem d_M_selfish_127 : decode prog_10_method_68_code 127 = .ok (.iload 5, 2) := dd_M_selfish_124.2.1
theorem d_M_selfish_129 : decode prog_10_method_68_code 129 = .ok (.aload_n 0, 1) := dd_M_selfish_124.2.2.1
theorem d_M_selfish_130 : decode prog_10_method_68_code 130 = .ok (.iload 6, 2) := dd_M_selfish_124.2.2.2.1
theorem d_M_selfish_132 : decode prog_10_method_68_code 132 = .ok (.invokevirtual 191, 3) := dd_M_selfish_124.2.2.2.2.1
theorem d_M_selfish_135 : decode prog_10_method_68_code 135 = .ok (.ifCond .eq 16, 3) := dd_M_selfish_124.2.2.2.2.2.1
theorem d_M_selfish_138 : decode prog_10_method_68_code 138 = .ok (.aload_n 0, 1) := dd_M_selfish_124.2.2.2.2.2.2.1
theorem d_M_selfish_139 : decode prog_10_method_68_code 139 = .ok (.iload 6, 2) := dd_M_selfish_124.2.2.2.2.2.2.2.1
theorem d_M_selfish_141 : decode prog_10_method_68_code 141 = .ok (.invokevirtual 204, 3) := dd_M_selfish_124.2.2.2.2.2.2.2.2.1
theorem d_M_selfish_144 : decode prog_10_method_68_code 144 = .ok (.ifCond .ne 7, 3) := dd_M_selfish_124.2.2.2.2.2.2.2.2.2.1
theorem d_M_selfish_147 : decode prog_10_method_68_code 147 = .ok (.iconst 1, 1) := dd_M_selfish_124.2.2.2.2.2.2.2.2.2.2.1
theorem d_M_selfish_148 : decode prog_10_method_68_code 148 = .ok (.goto 4, 3) := dd_M_selfish_124.2.2.2.2.2.2.2.2.2.2.2.1
theorem d_M_selfish_151 : decode prog_10_method_68_code 151 = .ok (.iconst 0, 1) := dd_M_selfish_124.2.2.2.2.2.2.2.2.2.2.2.2.1
theorem d_M_selfish_152 : decode prog_10_method_68_code 152 = .ok (.invokestatic 220, 3) := dd_M_selfish_124.2.2.2.2.2.2.2.2.2.2.2.2.2.1
theorem d_M_selfish_155 : decode prog_10_method_68_code 155 = .ok (.iload 6, 2) := dd_M_selfish_124.2.2.2.2.2.2.2.2.2.2.2.2.2.2.1
theorem d_M_selfish_157 : decode prog_10_method_68_code 157 = .ok (.ishl, 1) := dd_M_selfish_124.2.2.2.2.2.2.2.2.2.2.2.2.2.2.2.1
theorem d_M_selfish_158 : decode prog_10_method_68_code 158 = .ok (.ior, 1) := dd_M_selfish_124.2.2.2.2.2.2.2.2.2.2.2.2.2.2.2.2.1
theorem d_M_selfish_159 : decode prog_10_method_68_code 159 = .ok (.istore 5, 2) := dd_M_selfish_124.2.2.2.2.2.2.2.2.2.2.2.2.2.2.2.2.2.1
theorem d_M_selfish_161 : decode prog_10_method_68_code 161 = .ok (.iinc 6 1, 3) := dd_M_selfish_124.2.2.2.2.2.2.2.2.2.2.2.2.2.2.2.2.2.2.1
theorem d_M_selfish_164 : decode prog_10_method_68_code 164 = .ok (.goto (-46), 3) := dd_M_selfish_124.2.2.2.2.2.2.2.2.2.2.2.2.2.2.2.2.2.2.2.1
theorem d_M_selfish_167 : decode prog_10_method_68_code 167 = .ok (.aload_n 0, 1) := dd_M_selfish_124.2.2.2.2.2.2.2.2.2.2.2.2.2.2.2.2.2.2.2.2.1
theorem d_M_selfish_168 : decode prog_10_method_68_code 168 = .ok (.invokevirtual 281, 3) := dd_M_selfish_124.2.2.2.2.2.2.2.2.2.2.2.2.2.2.2.2.2.2.2.2.2.1
theorem d_M_selfish_171 : decode prog_10_method_68_code 171 = .ok (.iload_n 1, 1) := dd_M_selfish_124.2.2.2.2.2.2.2.2.2.2.2.2.2.2.2.2.2.2.2.2.2.2.1
theorem d_M_selfish_172 : decode prog_10_method_68_code 172 = .ok (.ifCond .ne 8, 3) := dd_M_selfish_124.2.2.2.2.2.2.2.2.2.2.2.2.2.2.2.2.2.2.2.2.2.2.2
set_option maxRecDepth 100000 in
theorem dd_M_selfish_175 : (decode prog_10_method_68_code 175 = .ok (.iload 5, 2)) ∧ (decode prog_10_method_68_code 177 = .ok (.goto 13, 3)) ∧ (decode prog_10_method_68_code 180 = .ok (.iload_n 1, 1)) ∧ (decode prog_10_method_68_code 181 = .ok (.iconst 1, 1)) ∧ (decode prog_10_method_68_code 182 = .ok (.if_icmp .ne 7, 3)) ∧ (decode prog_10_method_68_code 185 = .ok (.iload_n 2, 1)) ∧ (decode prog_10_method_68_code 186 = .ok (.goto 4, 3)) ∧ (decode prog_10_method_68_code 189 = .ok (.iload_n 3, 1)) ∧ (decode prog_10_method_68_code 190 = .ok (.ireturn, 1)) := by
  have h : List.drop 175 prog_10_method_68_code.data.toList = 0x15 :: _ := rfl
  refine ⟨zq_k_u1 21 (fun z => .iload z) 5 h rfl (zq_o_21 _) (by decide +kernel), ?_⟩
  replace h := zq_nx2 (q := 177) h rfl
  refine ⟨zq_k_s2 167 (fun z => .goto z) 13 h rfl (zq_o_167 _) (by decide +kernel), ?_⟩
  replace h := zq_nx3 (q := 180) h rfl
  refine ⟨zq_k_n 27 h rfl (zq_o_27 _), ?_⟩
  replace h := zq_nx1 (q := 181) h rfl
  refine ⟨zq_k_n 4 h rfl (zq_o_4 _), ?_⟩
  replace h := zq_nx1 (q := 182) h rfl
  refine ⟨zq_k_s2 160 (fun z => .if_icmp .ne z) 7 h rfl (zq_o_160 _) (by decide +kernel), ?_⟩
  replace h := zq_nx3 (q := 185) h rfl
  refine ⟨zq_k_n 28 h rfl (zq_o_28 _), ?_⟩
  replace h := zq_nx1 (q := 186) h rfl
  refine ⟨zq_k_s2 167 (fun z => .goto z) 4 h rfl (zq_o_167 _) (by decide +kernel), ?_⟩
  replace h := zq_nx3 (q := 189) h rfl
  refine ⟨zq_k_n 29 h rfl (zq_o_29 _), ?_⟩
  replace h := zq_nx1 (q := 190) h rfl
  exact zq_k_n 172 h rfl (zq_o_172 _)
theorem d_M_selfish_175 : decode prog_10_method_68_code 175 = .ok (.iload 5, 2) := dd_M_selfish_175.1
theorem d_M_selfish_177 : decode prog_10_method_68_code 177 = .ok (.goto 13, 3) := dd_M_selfish_175.2.1
theorem d_M_selfish_180 : decode prog_10_method_68_code 180 = .ok (.iload_n 1, 1) := dd_M_selfish_175.2.2.1
theorem d_M_selfish_181 : decode prog_10_method_68_code 181 = .ok (.iconst 1, 1) := dd_M_selfish_175.2.2.2.1
theorem d_M_selfish_182 : decode prog_10_method_68_code 182 = .ok (.if_icmp .ne 7, 3) := dd_M_selfish_175.2.2.2.2.1
theorem d_M_selfish_185 : decode prog_10_method_68_code 185 = .ok (.iload_n 2, 1) := dd_M_selfish_175.2.2.2.2.2.1
theorem d_M_selfish_186 : decode prog_10_method_68_code 186 = .ok (.goto 4, 3) := dd_M_selfish_175.2.2.2.2.2.2.1
theorem d_M_selfish_189 : decode prog_10_method_68_code 189 = .ok (.iload_n 3, 1) := dd_M_selfish_175.2.2.2.2.2.2.2.1
theorem d_M_selfish_190 : decode prog_10_method_68_code 190 = .ok (.ireturn, 1) := dd_M_selfish_175.2.2.2.2.2.2.2.2
def f_M_selfish_152 (rec118 : Nat → Int32 → Int32 → Int32 → Int32 → Int32 → mH → Option (Int32 × mH)) (b0 : Nat) (b1 : Int32) (b2 : Int32) (b3 : Int32) (b6 : Int32) (s0 : Int32) (s1 : Int32) (h : mH) : Option (Int32 × mH) :=
  bd2 (f_M_flag s1 h) fun x56 h54 =>
  rec118 b0 b1 b2 b3 (s0 ||| (x56 <<< (b6 &&& 31))) (b6 + (1 : Int32)) h54
set_option maxRecDepth 20000 in
theorem t_M_selfish_152 {sc : Nat × (Nat → Int32)} (rec118 : Nat → Int32 → Int32 → Int32 → Int32 → Int32 → mH → Option (Int32 × mH)) (hrec118 : ∀ (b0 : Nat) (b1 : Int32) (b2 : Int32) (b3 : Int32) (b5 : Int32) (b6 : Int32) (h : mH) (r : Int32) (h' : mH), rec118 b0 b1 b2 b3 b5 b6 h = some (r, h') → G sc y_M_selfish prog_10_method_68_code 7 (some .int) 5 113 118 [(0, .ref b0), (1, .int b1), (2, .int b2), (3, .int b3), (5, .int b5), (6, .int b6)] [] h (some (.int r)) h') (b0 : Nat) (b1 : Int32) (b2 : Int32) (b3 : Int32) (b6 : Int32) (s0 : Int32) (s1 : Int32) (h : mH) (r : Int32) (h' : mH) (hf : f_M_selfish_152 rec118 b0 b1 b2 b3 b6 s0 s1 h = some (r, h')) : G sc y_M_selfish prog_10_method_68_code 7 (some .int) 5 113 152 [(0, .ref b0), (1, .int b1), (2, .int b2), (3, .int b3), (6, .int b6)] [.int s1, .int s0] h (some (.int r)) h' := by
  unfold f_M_selfish_152 at hf
  obtain ⟨x56, h54, e55, hf⟩ := bd2_e hf
  refine g_callS (pc := 152) [.int s1] (site_of si_M_flag (by decide) (by decide)) wd_1180 wd_1181 d_M_selfish_152 (Nat.le_of_ble_eq_true rfl) (fun z => absurd z (by decide)) (fun z => absurd z (by decide)) (fun z => absurd z (by decide)) (c_M_flag e55) rfl ?_
  refine g_st [.int x56, .int s0] rfl ?_
  refine g_iload (pc := 155) 4 d_M_selfish_155 rfl ?_
  refine g_ishl (pc := 157) d_M_selfish_157 ?_
  refine g_ior (pc := 158) d_M_selfish_158 ?_
  refine g_istore (pc := 159) [(5, .int (s0 ||| (x56 <<< (b6 &&& 31)))), (0, .ref b0), (1, .int b1), (2, .int b2), (3, .int b3), (6, .int b6)] d_M_selfish_159 (Nat.le_of_ble_eq_true rfl) rfl ?_
  refine g_iinc (pc := 161) 5 (b6 + (1 : Int32)) [(6, .int (b6 + (1 : Int32))), (5, .int (s0 ||| (x56 <<< (b6 &&& 31)))), (0, .ref b0), (1, .int b1), (2, .int b2), (3, .int b3)] d_M_selfish_161 rfl rfl (Nat.le_of_ble_eq_true rfl) rfl ?_
  refine g_goto (pc := 164) 118 d_M_selfish_164 (by decide) ?_
  refine g_lv [2, 3, 4, 5, 1, 0] rfl ?_
  exact hrec118 _ _ _ _ _ _ _ _ _  hf
def f_M_selfish_151 (rec118 : Nat → Int32 → Int32 → Int32 → Int32 → Int32 → mH → Option (Int32 × mH)) (b0 : Nat) (b1 : Int32) (b2 : Int32) (b3 : Int32) (b6 : Int32) (s0 : Int32) (h : mH) : Option (Int32 × mH) :=
  f_M_selfish_152 rec118 b0 b1 b2 b3 b6 s0 (0 : Int32) h
set_option maxRecDepth 20000 in
theorem t_M_selfish_151 {sc : Nat × (Nat → Int32)} (rec118 : Nat → Int32 → Int32 → Int32 → Int32 → Int32 → mH → Option (Int32 × mH)) (hrec118 : ∀ (b0 : Nat) (b1 : Int32) (b2 : Int32) (b3 : Int32) (b5 : Int32) (b6 : Int32) (h : mH) (r : Int32) (h' : mH), rec118 b0 b1 b2 b3 b5 b6 h = some (r, h') → G sc y_M_selfish prog_10_method_68_code 7 (some .int) 5 113 118 [(0, .ref b0), (1, .int b1), (2, .int b2), (3, .int b3), (5, .int b5), (6, .int b6)] [] h (some (.int r)) h') (b0 : Nat) (b1 : Int32) (b2 : Int32) (b3 : Int32) (b6 : Int32) (s0 : Int32) (h : mH) (r : Int32) (h' : mH) (hf : f_M_selfish_151 rec118 b0 b1 b2 b3 b6 s0 h = some (r, h')) : G sc y_M_selfish prog_10_method_68_code 7 (some .int) 5 113 151 [(0, .ref b0), (1, .int b1), (2, .int b2), (3, .int b3), (6, .int b6)] [.int s0] h (some (.int r)) h' := by
  unfold f_M_selfish_151 at hf
  refine g_iconst (pc := 151) (0 : Int32) d_M_selfish_151 (by decide) ?_
  refine g_lv [0, 1, 2, 3, 4] rfl ?_
  exact t_M_selfish_152 rec118 hrec118 _ _ _ _ _ _ _ _ _ _  hf
def f_M_selfish_118b (rec118 : Nat → Int32 → Int32 → Int32 → Int32 → Int32 → mH → Option (Int32 × mH)) (b0 : Nat) (b1 : Int32) (b2 : Int32) (b3 : Int32) (b5 : Int32) (b6 : Int32) (h : mH) : Option (Int32 × mH) :=
  bd1 (gI h b0 8 2) fun x33 =>
  if x33 ≤ b6 then
    bd1 (kC h b0 8) fun _ =>
    bd1 (f_M_returns b0 h) fun h37 =>
    if b1 = 0 then
      some (b5, h37)
    else
      if b1 = (1 : Int32) then
        some (b2, h37)
      else
        some (b3, h37)
  else
    bd1 (kC h b0 8) fun _ =>
    bd2 (f_M_doesStand b0 b6 h) fun x45 h43 =>
    if x45 = 0 then
      f_M_selfish_151 rec118 b0 b1 b2 b3 b6 b5 h43
    else
      bd1 (kC h43 b0 8) fun _ =>
      bd2 (f_M_needOf b0 b6 h43) fun x50 h48 =>
      if x50 = 0 then
        f_M_selfish_152 rec118 b0 b1 b2 b3 b6 b5 (1 : Int32) h48
      else
        f_M_selfish_151 rec118 b0 b1 b2 b3 b6 b5 h48
set_option maxRecDepth 20000 in
theorem t_M_selfish_118b {sc : Nat × (Nat → Int32)} (rec118 : Nat → Int32 → Int32 → Int32 → Int32 → Int32 → mH → Option (Int32 × mH)) (hrec118 : ∀ (b0 : Nat) (b1 : Int32) (b2 : Int32) (b3 : Int32) (b5 : Int32) (b6 : Int32) (h : mH) (r : Int32) (h' : mH), rec118 b0 b1 b2 b3 b5 b6 h = some (r, h') → G sc y_M_selfish prog_10_method_68_code 7 (some .int) 5 113 118 [(0, .ref b0), (1, .int b1), (2, .int b2), (3, .int b3), (5, .int b5), (6, .int b6)] [] h (some (.int r)) h') (b0 : Nat) (b1 : Int32) (b2 : Int32) (b3 : Int32) (b5 : Int32) (b6 : Int32) (h : mH) (r : Int32) (h' : mH) (hf : f_M_selfish_118b rec118 b0 b1 b2 b3 b5 b6 h = some (r, h')) : G sc y_M_selfish prog_10_method_68_code 7 (some .int) 5 113 118 [(0, .ref b0), (1, .int b1), (2, .int b2), (3, .int b3), (5, .int b5), (6, .int b6)] [] h (some (.int r)) h' := by
  unfold f_M_selfish_118b at hf
  refine g_iload (pc := 118) 5 d_M_selfish_118 rfl ?_
  refine g_aload_n (pc := 120) 0 d_M_selfish_120 rfl rfl ?_
  obtain ⟨x33, e34, hf⟩ := bd1_e hf
  refine g_get (pc := 121) (ci := 8) (kk := 2) d_M_selfish_121 rfl in_M (by decide) wd_940 (gI_spec e34) ?_
  refine g_icmpge (pc := 124) 167 d_M_selfish_124 (by decide) (fun c53 => ?_) (fun c53 => ?_)
  · replace hf := (if_pos c53).symm.trans hf
    refine g_aload_n (pc := 167) 0 d_M_selfish_167 rfl rfl ?_
    obtain ⟨u36, e35, hf⟩ := bd1_e hf
    obtain ⟨h37, e38, hf⟩ := bd1_e hf
    refine g_callV (pc := 168) (ci := 8) [] (site_of si_M_returns (by decide) (by decide)) wd_1315 wd_1317 wp_66 d_M_selfish_168 rfl e35 (Nat.le_of_ble_eq_true rfl) (fun z => absurd z (by decide)) (fun z => absurd z (by decide)) (fun z => absurd z (by decide)) (c_M_returns e38) rfl ?_
    refine g_st [] rfl ?_
    refine g_iload_n (pc := 171) 1 d_M_selfish_171 rfl rfl ?_
    refine g_ifne (pc := 172) 180 d_M_selfish_172 (by decide) (fun c40 => ?_) (fun c40 => ?_)
    · replace hf := (if_neg c40).symm.trans hf
      refine g_iload_n (pc := 180) 1 d_M_selfish_180 rfl rfl ?_
      refine g_iconst (pc := 181) (1 : Int32) d_M_selfish_181 (by decide) ?_
      refine g_icmpne (pc := 182) 189 d_M_selfish_182 (by decide) (fun c39 => ?_) (fun c39 => ?_)
      · replace hf := (if_neg c39).symm.trans hf
        refine g_iload_n (pc := 189) 3 d_M_selfish_189 rfl rfl ?_
        obtain ⟨rfl, rfl⟩ := ret2 hf
        exact g_iret (pc := 190) rfl d_M_selfish_190
      · replace hf := (if_pos c39).symm.trans hf
        refine g_iload_n (pc := 185) 2 d_M_selfish_185 rfl rfl ?_
        refine g_goto (pc := 186) 190 d_M_selfish_186 (by decide) ?_
        obtain ⟨rfl, rfl⟩ := ret2 hf
        exact g_iret (pc := 190) rfl d_M_selfish_190
    · replace hf := (if_pos c40).symm.trans hf
      refine g_iload (pc := 175) 4 d_M_selfish_175 rfl ?_
      refine g_goto (pc := 177) 190 d_M_selfish_177 (by decide) ?_
      obtain ⟨rfl, rfl⟩ := ret2 hf
      exact g_iret (pc := 190) rfl d_M_selfish_190
  · replace hf := (if_neg c53).symm.trans hf
    refine g_iload (pc := 127) 4 d_M_selfish_127 rfl ?_
    refine g_aload_n (pc := 129) 0 d_M_selfish_129 rfl rfl ?_
    refine g_iload (pc := 130) 5 d_M_selfish_130 rfl ?_
    obtain ⟨u42, e41, hf⟩ := bd1_e hf
    obtain ⟨x45, h43, e44, hf⟩ := bd2_e hf
    refine g_callV (pc := 132) (ci := 8) [.int b6] (site_of si_M_doesStand (by decide) (by decide)) wd_1144 wd_1146 wp_46 d_M_selfish_132 rfl e41 (Nat.le_of_ble_eq_true rfl) (fun z => absurd z (by decide)) (fun z => absurd z (by decide)) (fun z => absurd z (by decide)) (c_M_doesStand e44) rfl ?_
    refine g_st [.int x45, .int b5] rfl ?_
    refine g_ifeq (pc := 135) 151 d_M_selfish_135 (by decide) (fun c52 => ?_) (fun c52 => ?_)
    · replace hf := (if_pos c52).symm.trans hf
      refine g_lv [0, 1, 2, 3, 5] rfl ?_
      exact t_M_selfish_151 rec118 hrec118 _ _ _ _ _ _ _ _ _  hf
    · replace hf := (if_neg c52).symm.trans hf
      refine g_aload_n (pc := 138) 0 d_M_selfish_138 rfl rfl ?_
      refine g_iload (pc := 139) 5 d_M_selfish_139 rfl ?_
      obtain ⟨u47, e46, hf⟩ := bd1_e hf
      obtain ⟨x50, h48, e49, hf⟩ := bd2_e hf
      refine g_callV (pc := 141) (ci := 8) [.int b6] (site_of si_M_needOf (by decide) (by decide)) wd_1140 wd_1142 wp_45 d_M_selfish_141 rfl e46 (Nat.le_of_ble_eq_true rfl) (fun z => absurd z (by decide)) (fun z => absurd z (by decide)) (fun z => absurd z (by decide)) (c_M_needOf e49) rfl ?_
      refine g_st [.int x50, .int b5] rfl ?_
      refine g_ifne (pc := 144) 151 d_M_selfish_144 (by decide) (fun c51 => ?_) (fun c51 => ?_)
      · replace hf := (if_neg c51).symm.trans hf
        refine g_lv [0, 1, 2, 3, 5] rfl ?_
        exact t_M_selfish_151 rec118 hrec118 _ _ _ _ _ _ _ _ _  hf
      · replace hf := (if_pos c51).symm.trans hf
        refine g_iconst (pc := 147) (1 : Int32) d_M_selfish_147 (by decide) ?_
        refine g_goto (pc := 148) 152 d_M_selfish_148 (by decide) ?_
        refine g_lv [0, 1, 2, 3, 5] rfl ?_
        exact t_M_selfish_152 rec118 hrec118 _ _ _ _ _ _ _ _ _ _  hf
def f_M_selfish_118  : Nat → Nat → Int32 → Int32 → Int32 → Int32 → Int32 → mH → Option (Int32 × mH)
  | 0 => fun _ _ _ _ _ _ _ => none
  | n + 1 => f_M_selfish_118b  (f_M_selfish_118  n)
theorem t_M_selfish_118 {sc : Nat × (Nat → Int32)}  : ∀ (n : Nat) (b0 : Nat) (b1 : Int32) (b2 : Int32) (b3 : Int32) (b5 : Int32) (b6 : Int32) (h : mH) (r : Int32) (h' : mH) (hf : f_M_selfish_118  n b0 b1 b2 b3 b5 b6 h = some (r, h')), G sc y_M_selfish prog_10_method_68_code 7 (some .int) 5 113 118 [(0, .ref b0), (1, .int b1), (2, .int b2), (3, .int b3), (5, .int b5), (6, .int b6)] [] h (some (.int r)) h'
  | 0, _, _, _, _, _, _, _, _, _, hf => by cases hf
  | n + 1, _, _, _, _, _, _, _, _, _, hf => t_M_selfish_118b  (f_M_selfish_118  n) (t_M_selfish_118  n) _ _ _ _ _ _ _ _ _ hf
def f_M_selfish_103 (rec25 : Nat → Int32 → Int32 → Int32 → Int32 → mH → Option (Int32 × mH)) (rec36 : Nat → Int32 → Int32 → Int32 → Int32 → Int32 → mH → Option (Int32 × mH)) (b0 : Nat) (b1 : Int32) (b2 : Int32) (b3 : Int32) (b4 : Int32) (b5 : Int32) (h : mH) : Option (Int32 × mH) :=
  rec36 b0 b1 b2 b3 b4 (b5 + (1 : Int32)) h
set_option maxRecDepth 20000 in
theorem t_M_selfish_103 {sc : Nat × (Nat → Int32)} (rec25 : Nat → Int32 → Int32 → Int32 → Int32 → mH → Option (Int32 × mH)) (hrec25 : ∀ (b0 : Nat) (b1 : Int32) (b2 : Int32) (b3 : Int32) (b4 : Int32) (h : mH) (r : Int32) (h' : mH), rec25 b0 b1 b2 b3 b4 h = some (r, h') → G sc y_M_selfish prog_10_method_68_code 7 (some .int) 5 113 25 [(0, .ref b0), (1, .int b1), (2, .int b2), (3, .int b3), (4, .int b4)] [] h (some (.int r)) h') (rec36 : Nat → Int32 → Int32 → Int32 → Int32 → Int32 → mH → Option (Int32 × mH)) (hrec36 : ∀ (b0 : Nat) (b1 : Int32) (b2 : Int32) (b3 : Int32) (b4 : Int32) (b5 : Int32) (h : mH) (r : Int32) (h' : mH), rec36 b0 b1 b2 b3 b4 b5 h = some (r, h') → G sc y_M_selfish prog_10_method_68_code 7 (some .int) 5 113 36 [(0, .ref b0), (1, .int b1), (2, .int b2), (3, .int b3), (4, .int b4), (5, .int b5)] [] h (some (.int r)) h') (b0 : Nat) (b1 : Int32) (b2 : Int32) (b3 : Int32) (b4 : Int32) (b5 : Int32) (h : mH) (r : Int32) (h' : mH) (hf : f_M_selfish_103 rec25 rec36 b0 b1 b2 b3 b4 b5 h = some (r, h')) : G sc y_M_selfish prog_10_method_68_code 7 (some .int) 5 113 103 [(0, .ref b0), (1, .int b1), (2, .int b2), (3, .int b3), (4, .int b4), (5, .int b5)] [] h (some (.int r)) h' := by
  unfold f_M_selfish_103 at hf
  refine g_iinc (pc := 103) 5 (b5 + (1 : Int32)) [(5, .int (b5 + (1 : Int32))), (0, .ref b0), (1, .int b1), (2, .int b2), (3, .int b3), (4, .int b4)] d_M_selfish_103 rfl rfl (Nat.le_of_ble_eq_true rfl) rfl ?_
  refine g_goto (pc := 106) 36 d_M_selfish_106 (by decide) ?_
  refine g_lv [1, 2, 3, 4, 5, 0] rfl ?_
  exact hrec36 _ _ _ _ _ _ _ _ _  hf
def f_M_selfish_36b (rec25 : Nat → Int32 → Int32 → Int32 → Int32 → mH → Option (Int32 × mH)) (rec36 : Nat → Int32 → Int32 → Int32 → Int32 → Int32 → mH → Option (Int32 × mH)) (b0 : Nat) (b1 : Int32) (b2 : Int32) (b3 : Int32) (b4 : Int32) (b5 : Int32) (h : mH) : Option (Int32 × mH) :=
  bd1 (gI h b0 8 3) fun x10 =>
  if x10 ≤ b5 then
    rec25 b0 b1 b2 b3 b4 h
  else
    bd1 (kC h b0 8) fun _ =>
    bd2 (f_M_wantedBy b0 b5 h) fun x16 h14 =>
    if x16 = ((-4) : Int32) then
      f_M_selfish_103 rec25 rec36 b0 b1 b2 b3 b4 b5 h14
    else
      bd1 (gR h14 b0 8 0) fun x17 =>
      bd1 (aI h14 0 x17 (((24 : Int32) + ((5 : Int32) * b5)) + x16)) fun x19 =>
      bd1 (sI h14 0 x17 (((24 : Int32) + ((5 : Int32) * b5)) + x16) (x19 + (1 : Int32))) fun h21 =>
      bd1 (gR h21 b0 8 5) fun x23 =>
      bd1 (aI h21 0 x23 x16) fun x25 =>
      bd1 (gR h21 b0 8 7) fun x27 =>
      bd1 (aI h21 0 x27 b5) fun x29 =>
      f_M_selfish_103 rec25 rec36 b0 b1 (b2 + (1 : Int32)) (b3 + (x25 + x29)) (1 : Int32) b5 h21
set_option maxRecDepth 20000 in
theorem t_M_selfish_36b {sc : Nat × (Nat → Int32)} (rec25 : Nat → Int32 → Int32 → Int32 → Int32 → mH → Option (Int32 × mH)) (hrec25 : ∀ (b0 : Nat) (b1 : Int32) (b2 : Int32) (b3 : Int32) (b4 : Int32) (h : mH) (r : Int32) (h' : mH), rec25 b0 b1 b2 b3 b4 h = some (r, h') → G sc y_M_selfish prog_10_method_68_code 7 (some .int) 5 113 25 [(0, .ref b0), (1, .int b1), (2, .int b2), (3, .int b3), (4, .int b4)] [] h (some (.int r)) h') (rec36 : Nat → Int32 → Int32 → Int32 → Int32 → Int32 → mH → Option (Int32 × mH)) (hrec36 : ∀ (b0 : Nat) (b1 : Int32) (b2 : Int32) (b3 : Int32) (b4 : Int32) (b5 : Int32) (h : mH) (r : Int32) (h' : mH), rec36 b0 b1 b2 b3 b4 b5 h = some (r, h') → G sc y_M_selfish prog_10_method_68_code 7 (some .int) 5 113 36 [(0, .ref b0), (1, .int b1), (2, .int b2), (3, .int b3), (4, .int b4), (5, .int b5)] [] h (some (.int r)) h') (b0 : Nat) (b1 : Int32) (b2 : Int32) (b3 : Int32) (b4 : Int32) (b5 : Int32) (h : mH) (r : Int32) (h' : mH) (hf : f_M_selfish_36b rec25 rec36 b0 b1 b2 b3 b4 b5 h = some (r, h')) : G sc y_M_selfish prog_10_method_68_code 7 (some .int) 5 113 36 [(0, .ref b0), (1, .int b1), (2, .int b2), (3, .int b3), (4, .int b4), (5, .int b5)] [] h (some (.int r)) h' := by
  unfold f_M_selfish_36b at hf
  refine g_iload (pc := 36) 5 d_M_selfish_36 rfl ?_
  refine g_aload_n (pc := 38) 0 d_M_selfish_38 rfl rfl ?_
  obtain ⟨x10, e11, hf⟩ := bd1_e hf
  refine g_get (pc := 39) (ci := 8) (kk := 3) d_M_selfish_39 rfl in_M (by decide) wd_941 (gI_spec e11) ?_
  refine g_icmpge (pc := 42) 109 d_M_selfish_42 (by decide) (fun c32 => ?_) (fun c32 => ?_)
  · replace hf := (if_pos c32).symm.trans hf
    refine g_goto (pc := 109) 25 d_M_selfish_109 (by decide) ?_
    refine g_lv [0, 1, 2, 3, 4] rfl ?_
    exact hrec25 _ _ _ _ _ _ _ _  hf
  · replace hf := (if_neg c32).symm.trans hf
    refine g_aload_n (pc := 45) 0 d_M_selfish_45 rfl rfl ?_
    refine g_iload (pc := 46) 5 d_M_selfish_46 rfl ?_
    obtain ⟨u13, e12, hf⟩ := bd1_e hf
    obtain ⟨x16, h14, e15, hf⟩ := bd2_e hf
    refine g_callV (pc := 48) (ci := 8) [.int b5] (site_of si_M_wantedBy (by decide) (by decide)) wd_1311 wd_1313 wp_65 d_M_selfish_48 rfl e12 (Nat.le_of_ble_eq_true rfl) (fun z => absurd z (by decide)) (fun z => absurd z (by decide)) (fun z => absurd z (by decide)) (c_M_wantedBy e15) rfl ?_
    refine g_st [.int x16] rfl ?_
    refine g_istore (pc := 51) [(6, .int x16), (0, .ref b0), (1, .int b1), (2, .int b2), (3, .int b3), (4, .int b4), (5, .int b5)] d_M_selfish_51 (Nat.le_of_ble_eq_true rfl) rfl ?_
    refine g_iload (pc := 53) 0 d_M_selfish_53 rfl ?_
    refine g_bipush (pc := 55) ((-4) : Int32) d_M_selfish_55 (by decide) ?_
    refine g_icmpeq (pc := 57) 103 d_M_selfish_57 (by decide) (fun c31 => ?_) (fun c31 => ?_)
    · replace hf := (if_pos c31).symm.trans hf
      refine g_lv [1, 2, 3, 4, 5, 6] rfl ?_
      exact t_M_selfish_103 rec25 hrec25 rec36 hrec36 _ _ _ _ _ _ _ _ _  hf
    · replace hf := (if_neg c31).symm.trans hf
      refine g_aload_n (pc := 60) 1 d_M_selfish_60 rfl rfl ?_
      obtain ⟨x17, e18, hf⟩ := bd1_e hf
      refine g_get (pc := 61) (ci := 8) (kk := 0) d_M_selfish_61 rfl in_M (by decide) wd_938 (gR_spec e18) ?_
      refine g_bipush (pc := 64) (24 : Int32) d_M_selfish_64 (by decide) ?_
      refine g_iconst (pc := 66) (5 : Int32) d_M_selfish_66 (by decide) ?_
      refine g_iload (pc := 67) 6 d_M_selfish_67 rfl ?_
      refine g_imul (pc := 69) d_M_selfish_69 ?_
      refine g_iadd (pc := 70) d_M_selfish_70 ?_
      refine g_iload (pc := 71) 0 d_M_selfish_71 rfl ?_
      refine g_iadd (pc := 73) d_M_selfish_73 ?_
      refine g_dup2 (pc := 74) d_M_selfish_74 rfl rfl ?_
      obtain ⟨x19, e20, hf⟩ := bd1_e hf
      refine g_iald (pc := 75) d_M_selfish_75 e20 ?_
      refine g_iconst (pc := 76) (1 : Int32) d_M_selfish_76 (by decide) ?_
      refine g_iadd (pc := 77) d_M_selfish_77 ?_
      obtain ⟨h21, e22, hf⟩ := bd1_e hf
      refine g_iast (pc := 78) d_M_selfish_78 e22 ?_
      refine g_iinc (pc := 79) 3 (b2 + (1 : Int32)) [(2, .int (b2 + (1 : Int32))), (6, .int x16), (0, .ref b0), (1, .int b1), (3, .int b3), (4, .int b4), (5, .int b5)] d_M_selfish_79 rfl rfl (Nat.le_of_ble_eq_true rfl) rfl ?_
      refine g_iload_n (pc := 82) 4 d_M_selfish_82 rfl rfl ?_
      refine g_aload_n (pc := 83) 2 d_M_selfish_83 rfl rfl ?_
      obtain ⟨x23, e24, hf⟩ := bd1_e hf
      refine g_get (pc := 84) (ci := 8) (kk := 5) d_M_selfish_84 rfl in_M (by decide) wd_943 (gR_spec e24) ?_
      refine g_iload (pc := 87) 1 d_M_selfish_87 rfl ?_
      obtain ⟨x25, e26, hf⟩ := bd1_e hf
      refine g_iald (pc := 89) d_M_selfish_89 e26 ?_
      refine g_aload_n (pc := 90) 2 d_M_selfish_90 rfl rfl ?_
      obtain ⟨x27, e28, hf⟩ := bd1_e hf
      refine g_get (pc := 91) (ci := 8) (kk := 7) d_M_selfish_91 rfl in_M (by decide) wd_945 (gR_spec e28) ?_
      refine g_iload (pc := 94) 6 d_M_selfish_94 rfl ?_
      obtain ⟨x29, e30, hf⟩ := bd1_e hf
      refine g_iald (pc := 96) d_M_selfish_96 e30 ?_
      refine g_iadd (pc := 97) d_M_selfish_97 ?_
      refine g_iadd (pc := 98) d_M_selfish_98 ?_
      refine g_istore_n (pc := 99) [(3, .int (b3 + (x25 + x29))), (2, .int (b2 + (1 : Int32))), (6, .int x16), (0, .ref b0), (1, .int b1), (4, .int b4), (5, .int b5)] d_M_selfish_99 rfl (Nat.le_of_ble_eq_true rfl) rfl ?_
      refine g_iconst (pc := 100) (1 : Int32) d_M_selfish_100 (by decide) ?_
      refine g_istore (pc := 101) [(4, .int (1 : Int32)), (3, .int (b3 + (x25 + x29))), (2, .int (b2 + (1 : Int32))), (6, .int x16), (0, .ref b0), (1, .int b1), (5, .int b5)] d_M_selfish_101 (Nat.le_of_ble_eq_true rfl) rfl ?_
      refine g_lv [4, 5, 2, 1, 0, 6] rfl ?_
      exact t_M_selfish_103 rec25 hrec25 rec36 hrec36 _ _ _ _ _ _ _ _ _  hf
def f_M_selfish_36 (rec25 : Nat → Int32 → Int32 → Int32 → Int32 → mH → Option (Int32 × mH)) : Nat → Nat → Int32 → Int32 → Int32 → Int32 → Int32 → mH → Option (Int32 × mH)
  | 0 => fun _ _ _ _ _ _ _ => none
  | n + 1 => f_M_selfish_36b rec25 (f_M_selfish_36 rec25 n)
theorem t_M_selfish_36 {sc : Nat × (Nat → Int32)} (rec25 : Nat → Int32 → Int32 → Int32 → Int32 → mH → Option (Int32 × mH)) (hrec25 : ∀ (b0 : Nat) (b1 : Int32) (b2 : Int32) (b3 : Int32) (b4 : Int32) (h : mH) (r : Int32) (h' : mH), rec25 b0 b1 b2 b3 b4 h = some (r, h') → G sc y_M_selfish prog_10_method_68_code 7 (some .int) 5 113 25 [(0, .ref b0), (1, .int b1), (2, .int b2), (3, .int b3), (4, .int b4)] [] h (some (.int r)) h') : ∀ (n : Nat) (b0 : Nat) (b1 : Int32) (b2 : Int32) (b3 : Int32) (b4 : Int32) (b5 : Int32) (h : mH) (r : Int32) (h' : mH) (hf : f_M_selfish_36 rec25 n b0 b1 b2 b3 b4 b5 h = some (r, h')), G sc y_M_selfish prog_10_method_68_code 7 (some .int) 5 113 36 [(0, .ref b0), (1, .int b1), (2, .int b2), (3, .int b3), (4, .int b4), (5, .int b5)] [] h (some (.int r)) h'
  | 0, _, _, _, _, _, _, _, _, _, hf => by cases hf
  | n + 1, _, _, _, _, _, _, _, _, _, hf => t_M_selfish_36b rec25 hrec25 (f_M_selfish_36 rec25 n) (t_M_selfish_36 rec25 hrec25 n) _ _ _ _ _ _ _ _ _ hf
def f_M_selfish_25b (rec25 : Nat → Int32 → Int32 → Int32 → Int32 → mH → Option (Int32 × mH)) (b0 : Nat) (b1 : Int32) (b2 : Int32) (b3 : Int32) (b4 : Int32) (h : mH) : Option (Int32 × mH) :=
  if b4 = 0 then
    f_M_selfish_118  FU b0 b1 b2 b3 (0 : Int32) (0 : Int32) h
  else
    f_M_selfish_36 rec25 FU b0 b1 b2 b3 (0 : Int32) (0 : Int32) h
set_option maxRecDepth 20000 in
theorem t_M_selfish_25b {sc : Nat × (Nat → Int32)} (rec25 : Nat → Int32 → Int32 → Int32 → Int32 → mH → Option (Int32 × mH)) (hrec25 : ∀ (b0 : Nat) (b1 : Int32) (b2 : Int32) (b3 : Int32) (b4 : Int32) (h : mH) (r : Int32) (h' : mH), rec25 b0 b1 b2 b3 b4 h = some (r, h') → G sc y_M_selfish prog_10_method_68_code 7 (some .int) 5 113 25 [(0, .ref b0), (1, .int b1), (2, .int b2), (3, .int b3), (4, .int b4)] [] h (some (.int r)) h') (b0 : Nat) (b1 : Int32) (b2 : Int32) (b3 : Int32) (b4 : Int32) (h : mH) (r : Int32) (h' : mH) (hf : f_M_selfish_25b rec25 b0 b1 b2 b3 b4 h = some (r, h')) : G sc y_M_selfish prog_10_method_68_code 7 (some .int) 5 113 25 [(0, .ref b0), (1, .int b1), (2, .int b2), (3, .int b3), (4, .int b4)] [] h (some (.int r)) h' := by
  unfold f_M_selfish_25b at hf
  refine g_iload (pc := 25) 4 d_M_selfish_25 rfl ?_
  refine g_ifeq (pc := 27) 112 d_M_selfish_27 (by decide) (fun c9 => ?_) (fun c9 => ?_)
  · replace hf := (if_pos c9).symm.trans hf
    refine g_iconst (pc := 112) (0 : Int32) d_M_selfish_112 (by decide) ?_
    refine g_istore (pc := 113) [(5, .int (0 : Int32)), (0, .ref b0), (1, .int b1), (2, .int b2), (3, .int b3), (4, .int b4)] d_M_selfish_113 (Nat.le_of_ble_eq_true rfl) rfl ?_
    refine g_iconst (pc := 115) (0 : Int32) d_M_selfish_115 (by decide) ?_
    refine g_istore (pc := 116) [(6, .int (0 : Int32)), (5, .int (0 : Int32)), (0, .ref b0), (1, .int b1), (2, .int b2), (3, .int b3), (4, .int b4)] d_M_selfish_116 (Nat.le_of_ble_eq_true rfl) rfl ?_
    refine g_lv [2, 3, 4, 5, 1, 0] rfl ?_
    exact t_M_selfish_118  FU _ _ _ _ _ _ _ _ _  hf
  · replace hf := (if_neg c9).symm.trans hf
    refine g_iconst (pc := 30) (0 : Int32) d_M_selfish_30 (by decide) ?_
    refine g_istore (pc := 31) [(4, .int (0 : Int32)), (0, .ref b0), (1, .int b1), (2, .int b2), (3, .int b3)] d_M_selfish_31 (Nat.le_of_ble_eq_true rfl) rfl ?_
    refine g_iconst (pc := 33) (0 : Int32) d_M_selfish_33 (by decide) ?_
    refine g_istore (pc := 34) [(5, .int (0 : Int32)), (4, .int (0 : Int32)), (0, .ref b0), (1, .int b1), (2, .int b2), (3, .int b3)] d_M_selfish_34 (Nat.le_of_ble_eq_true rfl) rfl ?_
    refine g_lv [2, 3, 4, 5, 1, 0] rfl ?_
    exact t_M_selfish_36 rec25 hrec25 FU _ _ _ _ _ _ _ _ _  hf
def f_M_selfish_25  : Nat → Nat → Int32 → Int32 → Int32 → Int32 → mH → Option (Int32 × mH)
  | 0 => fun _ _ _ _ _ _ => none
  | n + 1 => f_M_selfish_25b  (f_M_selfish_25  n)
theorem t_M_selfish_25 {sc : Nat × (Nat → Int32)}  : ∀ (n : Nat) (b0 : Nat) (b1 : Int32) (b2 : Int32) (b3 : Int32) (b4 : Int32) (h : mH) (r : Int32) (h' : mH) (hf : f_M_selfish_25  n b0 b1 b2 b3 b4 h = some (r, h')), G sc y_M_selfish prog_10_method_68_code 7 (some .int) 5 113 25 [(0, .ref b0), (1, .int b1), (2, .int b2), (3, .int b3), (4, .int b4)] [] h (some (.int r)) h'
  | 0, _, _, _, _, _, _, _, _, hf => by cases hf
  | n + 1, _, _, _, _, _, _, _, _, hf => t_M_selfish_25b  (f_M_selfish_25  n) (t_M_selfish_25  n) _ _ _ _ _ _ _ _ hf
def f_M_selfish_0  (a0 : Nat) (a1 : Int32) (h : mH) : Option (Int32 × mH) :=
  bd2 (f_M_in a1.toInt64 (0 : Int64) (2 : Int64) h) fun x3 h1 =>
  if x3 = 0 then
    some (((-1) : Int32), h1)
  else
    bd1 (kC h1 a0 8) fun _ =>
    bd1 (f_M_saves a0 h1) fun h6 =>
    f_M_selfish_25  FU a0 a1 (0 : Int32) (0 : Int32) (1 : Int32) h6
set_option maxRecDepth 20000 in
theorem t_M_selfish_0 {sc : Nat × (Nat → Int32)}  (a0 : Nat) (a1 : Int32) (h : mH) (r : Int32) (h' : mH) (hf : f_M_selfish_0  a0 a1 h = some (r, h')) : G sc y_M_selfish prog_10_method_68_code 7 (some .int) 5 113 0 [(0, .ref a0), (1, .int a1)] [] h (some (.int r)) h' := by
  unfold f_M_selfish_0 at hf
  refine g_iload_n (pc := 0) 1 d_M_selfish_0 rfl rfl ?_
  refine g_i2l (pc := 1) d_M_selfish_1 ?_
  refine g_lconst (pc := 2) (0 : Int64) d_M_selfish_2 (by decide) ?_
  refine g_ldc2 (pc := 3) (2 : Int64) d_M_selfish_3 wd_1306 ?_
  obtain ⟨x3, h1, e2, hf⟩ := bd2_e hf
  refine g_callS (pc := 6) [.long a1.toInt64, .long (0 : Int64), .long (2 : Int64)] (site_of si_M_in (by decide) (by decide)) wd_1061 wd_1062 d_M_selfish_6 (Nat.le_of_ble_eq_true rfl) (fun z => absurd z (by decide)) (fun z => absurd z (by decide)) (fun z => absurd z (by decide)) (c_M_in e2) rfl ?_
  refine g_st [.int x3] rfl ?_
  refine g_ifne (pc := 9) 14 d_M_selfish_9 (by decide) (fun c8 => ?_) (fun c8 => ?_)
  · replace hf := (if_neg c8).symm.trans hf
    refine g_aload_n (pc := 14) 0 d_M_selfish_14 rfl rfl ?_
    obtain ⟨u5, e4, hf⟩ := bd1_e hf
    obtain ⟨h6, e7, hf⟩ := bd1_e hf
    refine g_callV (pc := 15) (ci := 8) [] (site_of si_M_saves (by decide) (by decide)) wd_1307 wd_1309 wp_64 d_M_selfish_15 rfl e4 (Nat.le_of_ble_eq_true rfl) (fun z => absurd z (by decide)) (fun z => absurd z (by decide)) (fun z => absurd z (by decide)) (c_M_saves e7) rfl ?_
    refine g_st [] rfl ?_
    refine g_iconst (pc := 18) (0 : Int32) d_M_selfish_18 (by decide) ?_
    refine g_istore_n (pc := 19) [(2, .int (0 : Int32)), (0, .ref a0), (1, .int a1)] d_M_selfish_19 rfl (Nat.le_of_ble_eq_true rfl) rfl ?_
    refine g_iconst (pc := 20) (0 : Int32) d_M_selfish_20 (by decide) ?_
    refine g_istore_n (pc := 21) [(3, .int (0 : Int32)), (2, .int (0 : Int32)), (0, .ref a0), (1, .int a1)] d_M_selfish_21 rfl (Nat.le_of_ble_eq_true rfl) rfl ?_
    refine g_iconst (pc := 22) (1 : Int32) d_M_selfish_22 (by decide) ?_
    refine g_istore (pc := 23) [(4, .int (1 : Int32)), (3, .int (0 : Int32)), (2, .int (0 : Int32)), (0, .ref a0), (1, .int a1)] d_M_selfish_23 (Nat.le_of_ble_eq_true rfl) rfl ?_
    refine g_lv [3, 4, 2, 1, 0] rfl ?_
    exact t_M_selfish_25  FU _ _ _ _ _ _ _ _  hf
  · replace hf := (if_pos c8).symm.trans hf
    refine g_iconst (pc := 12) ((-1) : Int32) d_M_selfish_12 (by decide) ?_
    obtain ⟨rfl, rfl⟩ := ret2 hf
    exact g_iret (pc := 13) rfl d_M_selfish_13
def f_M_selfish (a0 : Nat) (a1 : Int32) (h : mH) : Option (Int32 × mH) := f_M_selfish_0 a0 a1 h
theorem c_M_selfish {sc : Nat × (Nat → Int32)} {a0 : Nat} {a1 : Int32} {h : mH} {r : Int32} {h' : mH} (hf : f_M_selfish a0 a1 h = some (r, h')) : MM sc y_M_selfish prog_10_method_68_code 7 (some .int) 5 113 [.ref a0, .int a1] h (some (.int r)) h' :=
  mm_of_G (by decide) (Nat.le_of_ble_eq_true rfl) (t_M_selfish_0 _ _ _ _ _ hf)
/-! M common (JJ)J -/
set_option maxRecDepth 100000 in
theorem dd_M_common_0 : (decode prog_10_method_69_code 0 = .ok (.lload_n 0, 1)) ∧ (decode prog_10_method_69_code 1 = .ok (.lstore 4, 2)) ∧ (decode prog_10_method_69_code 3 = .ok (.lload_n 2, 1)) ∧ (decode prog_10_method_69_code 4 = .ok (.lstore 6, 2)) ∧ (decode prog_10_method_69_code 6 = .ok (.lload 6, 2)) ∧ (decode prog_10_method_69_code 8 = .ok (.lconst 0, 1)) ∧ (decode prog_10_method_69_code 9 = .ok (.lcmp, 1)) ∧ (decode prog_10_method_69_code 10 = .ok (.ifCond .eq 21, 3)) ∧ (decode prog_10_method_69_code 13 = .ok (.lload 4, 2)) ∧ (decode prog_10_method_69_code 15 = .ok (.lload 6, 2)) ∧ (decode prog_10_method_69_code 17 = .ok (.lrem, 1)) ∧ (decode prog_10_method_69_code 18 = .ok (.lstore 8, 2)) ∧ (decode prog_10_method_69_code 20 = .ok (.lload 6, 2)) ∧ (decode prog_10_method_69_code 22 = .ok (.lstore 4, 2)) ∧ (decode prog_10_method_69_code 24 = .ok (.lload 8, 2)) ∧ (decode prog_10_method_69_code 26 = .ok (.lstore 6, 2)) ∧ (decode prog_10_method_69_code 28 = .ok (.goto (-22), 3)) ∧ (decode prog_10_method_69_code 31 = .ok (.lload 4, 2)) ∧ (decode prog_10_method_69_code 33 = .ok (.lreturn, 1)) := by
  have h : List.drop 0 prog_10_method_69_code.data.toList = 0x1e :: _ := rfl
  refine ⟨zq_k_n 30 h rfl (zq_o_30 _), ?_⟩
  replace h := zq_nx1 (q := 1) h rfl
  refine ⟨zq_k_u1 55 (fun z => .lstore z) 4 h rfl (zq_o_55 _) (by decide +kernel), ?_⟩
  replace h := zq_nx2 (q := 3) h rfl
  refine ⟨zq_k_n 32 h rfl (zq_o_32 _), ?_⟩
  replace h := zq_nx1 (q := 4) h rfl
  refine ⟨zq_k_u1 55 (fun z => .lstore z) 6 h rfl (zq_o_55 _) (by decide +kernel), ?_⟩
  replace h := zq_nx2 (q := 6) h rfl
  refine ⟨zq_k_u1 22 (fun z => .lload z) 6 h rfl (zq_o_22 _) (by decide +kernel), ?_⟩
  replace h := zq_nx2 (q := 8) h rfl
  refine ⟨zq_k_n 9 h rfl (zq_o_9 _), ?_⟩
  replace h := zq_nx1 (q := 9) h rfl
  refine ⟨zq_k_n 148 h rfl (zq_o_148 _), ?_⟩
  replace h := zq_nx1 (q := 10) h rfl
  refine ⟨zq_k_s2 153 (fun z => .ifCond .eq z) 21 h rfl (zq_o_153 _) (by decide +kernel), ?_⟩
  replace h := zq_nx3 (q := 13) h rfl
  refine ⟨zq_k_u1 22 (fun z => .lload z) 4 h rfl (zq_o_22 _) (by decide +kernel), ?_⟩
  replace h := zq_nx2 (q := 15) h rfl
  refine ⟨zq_k_u1 22 (fun z => .lload z) 6 h rfl (zq_o_22 _) (by decide +kernel), ?_⟩
  replace h := zq_nx2 (q := 17) h rfl
  refine ⟨zq_k_n 113 h rfl (zq_o_113 _), ?_⟩
  replace h := zq_nx1 (q := 18) h rfl
  refine ⟨zq_k_u1 55 (fun z => .lstore z) 8 h rfl (zq_o_55 _) (by decide +kernel), ?_⟩
  replace h := zq_nx2 (q := 20) h rfl
  refine ⟨zq_k_u1 22 (fun z => .lload z) 6 h rfl (zq_o_22 _) (by decide +kernel), ?_⟩
  replace h := zq_nx2 (q := 22) h rfl
  refine ⟨zq_k_u1 55 (fun z => .lstore z) 4 h rfl (zq_o_55 _) (by decide +kernel), ?_⟩
  replace h := zq_nx2 (q := 24) h rfl
  refine ⟨zq_k_u1 22 (fun z => .lload z) 8 h rfl (zq_o_22 _) (by decide +kernel), ?_⟩
  replace h := zq_nx2 (q := 26) h rfl
  refine ⟨zq_k_u1 55 (fun z => .lstore z) 6 h rfl (zq_o_55 _) (by decide +kernel), ?_⟩
  replace h := zq_nx2 (q := 28) h rfl
  refine ⟨zq_k_s2 167 (fun z => .goto z) (-22) h rfl (zq_o_167 _) (by decide +kernel), ?_⟩
  replace h := zq_nx3 (q := 31) h rfl
  refine ⟨zq_k_u1 22 (fun z => .lload z) 4 h rfl (zq_o_22 _) (by decide +kernel), ?_⟩
  replace h := zq_nx2 (q := 33) h rfl
  exact zq_k_n 173 h rfl (zq_o_173 _)
theorem d_M_common_0 : decode prog_10_method_69_code 0 = .ok (.lload_n 0, 1) := dd_M_common_0.1
theorem d_M_common_1 : decode prog_10_method_69_code 1 = .ok (.lstore 4, 2) := dd_M_common_0.2.1
theorem d_M_common_3 : decode prog_10_method_69_code 3 = .ok (.lload_n 2, 1) := dd_M_common_0.2.2.1
theorem d_M_common_4 : decode prog_10_method_69_code 4 = .ok (.lstore 6, 2) := dd_M_common_0.2.2.2.1
theorem d_M_common_6 : decode prog_10_method_69_code 6 = .ok (.lload 6, 2) := dd_M_common_0.2.2.2.2.1
theorem d_M_common_8 : decode prog_10_method_69_code 8 = .ok (.lconst 0, 1) := dd_M_common_0.2.2.2.2.2.1
theorem d_M_common_9 : decode prog_10_method_69_code 9 = .ok (.lcmp, 1) := dd_M_common_0.2.2.2.2.2.2.1
theorem d_M_common_10 : decode prog_10_method_69_code 10 = .ok (.ifCond .eq 21, 3) := dd_M_common_0.2.2.2.2.2.2.2.1
theorem d_M_common_13 : decode prog_10_method_69_code 13 = .ok (.lload 4, 2) := dd_M_common_0.2.2.2.2.2.2.2.2.1
theorem d_M_common_15 : decode prog_10_method_69_code 15 = .ok (.lload 6, 2) := dd_M_common_0.2.2.2.2.2.2.2.2.2.1
theorem d_M_common_17 : decode prog_10_method_69_code 17 = .ok (.lrem, 1) := dd_M_common_0.2.2.2.2.2.2.2.2.2.2.1
theorem d_M_common_18 : decode prog_10_method_69_code 18 = .ok (.lstore 8, 2) := dd_M_common_0.2.2.2.2.2.2.2.2.2.2.2.1
theorem d_M_common_20 : decode prog_10_method_69_code 20 = .ok (.lload 6, 2) := dd_M_common_0.2.2.2.2.2.2.2.2.2.2.2.2.1
theorem d_M_common_22 : decode prog_10_method_69_code 22 = .ok (.lstore 4, 2) := dd_M_common_0.2.2.2.2.2.2.2.2.2.2.2.2.2.1
theorem d_M_common_24 : decode prog_10_method_69_code 24 = .ok (.lload 8, 2) := dd_M_common_0.2.2.2.2.2.2.2.2.2.2.2.2.2.2.1
theorem d_M_common_26 : decode prog_10_method_69_code 26 = .ok (.lstore 6, 2) := dd_M_common_0.2.2.2.2.2.2.2.2.2.2.2.2.2.2.2.1
theorem d_M_common_28 : decode prog_10_method_69_code 28 = .ok (.goto (-22), 3) := dd_M_common_0.2.2.2.2.2.2.2.2.2.2.2.2.2.2.2.2.1
theorem d_M_common_31 : decode prog_10_method_69_code 31 = .ok (.lload 4, 2) := dd_M_common_0.2.2.2.2.2.2.2.2.2.2.2.2.2.2.2.2.2.1
theorem d_M_common_33 : decode prog_10_method_69_code 33 = .ok (.lreturn, 1) := dd_M_common_0.2.2.2.2.2.2.2.2.2.2.2.2.2.2.2.2.2.2
def f_M_common_6b (rec6 : Int64 → Int64 → mH → Option (Int64 × mH)) (b4 : Int64) (b6 : Int64) (h : mH) : Option (Int64 × mH) :=
  if (lg_cmp b6 (0 : Int64)) = 0 then
    some (b4, h)
  else
    if b6 = 0 then none else
    rec6 b6 (b4 - b4 / b6 * b6) h
set_option maxRecDepth 20000 in
theorem t_M_common_6b {sc : Nat × (Nat → Int32)} (rec6 : Int64 → Int64 → mH → Option (Int64 × mH)) (hrec6 : ∀ (b4 : Int64) (b6 : Int64) (h : mH) (r : Int64) (h' : mH), rec6 b4 b6 h = some (r, h') → G sc y_M_common prog_10_method_69_code 10 (some .long) 0 0 6 [(4, .long b4), (6, .long b6)] [] h (some (.long r)) h') (b4 : Int64) (b6 : Int64) (h : mH) (r : Int64) (h' : mH) (hf : f_M_common_6b rec6 b4 b6 h = some (r, h')) : G sc y_M_common prog_10_method_69_code 10 (some .long) 0 0 6 [(4, .long b4), (6, .long b6)] [] h (some (.long r)) h' := by
  unfold f_M_common_6b at hf
  refine g_lload (pc := 6) 1 d_M_common_6 rfl ?_
  refine g_lconst (pc := 8) (0 : Int64) d_M_common_8 (by decide) ?_
  refine g_lcmp (pc := 9) d_M_common_9 ?_
  refine g_ifeq (pc := 10) 31 d_M_common_10 (by decide) (fun c2 => ?_) (fun c2 => ?_)
  · replace hf := (if_pos c2).symm.trans hf
    refine g_lload (pc := 31) 0 d_M_common_31 rfl ?_
    obtain ⟨rfl, rfl⟩ := ret2 hf
    exact g_lret (pc := 33) rfl d_M_common_33
  · replace hf := (if_neg c2).symm.trans hf
    refine g_lload (pc := 13) 0 d_M_common_13 rfl ?_
    refine g_lload (pc := 15) 1 d_M_common_15 rfl ?_
    have c1 : ¬ b6 = 0 := fun z => absurd ((if_pos z).symm.trans hf) (by simp)
    replace hf := (if_neg c1).symm.trans hf
    refine g_lrem (pc := 17) d_M_common_17 c1 ?_
    refine g_lstore (pc := 18) [(8, .long (b4 - b4 / b6 * b6)), (4, .long b4), (6, .long b6)] d_M_common_18 (Nat.le_of_ble_eq_true rfl) rfl ?_
    refine g_lload (pc := 20) 2 d_M_common_20 rfl ?_
    refine g_lstore (pc := 22) [(4, .long b6), (8, .long (b4 - b4 / b6 * b6)), (6, .long b6)] d_M_common_22 (Nat.le_of_ble_eq_true rfl) rfl ?_
    refine g_lload (pc := 24) 1 d_M_common_24 rfl ?_
    refine g_lstore (pc := 26) [(6, .long (b4 - b4 / b6 * b6)), (4, .long b6), (8, .long (b4 - b4 / b6 * b6))] d_M_common_26 (Nat.le_of_ble_eq_true rfl) rfl ?_
    refine g_goto (pc := 28) 6 d_M_common_28 (by decide) ?_
    refine g_lv [1, 0] rfl ?_
    exact hrec6 _ _ _ _ _  hf
def f_M_common_6  : Nat → Int64 → Int64 → mH → Option (Int64 × mH)
  | 0 => fun _ _ _ => none
  | n + 1 => f_M_common_6b  (f_M_common_6  n)
theorem t_M_common_6 {sc : Nat × (Nat → Int32)}  : ∀ (n : Nat) (b4 : Int64) (b6 : Int64) (h : mH) (r : Int64) (h' : mH) (hf : f_M_common_6  n b4 b6 h = some (r, h')), G sc y_M_common prog_10_method_69_code 10 (some .long) 0 0 6 [(4, .long b4), (6, .long b6)] [] h (some (.long r)) h'
  | 0, _, _, _, _, _, hf => by cases hf
  | n + 1, _, _, _, _, _, hf => t_M_common_6b  (f_M_common_6  n) (t_M_common_6  n) _ _ _ _ _ hf
def f_M_common_0  (a0 : Int64) (a1 : Int64) (h : mH) : Option (Int64 × mH) :=
  f_M_common_6  FU a0 a1 h
set_option maxRecDepth 20000 in
theorem t_M_common_0 {sc : Nat × (Nat → Int32)}  (a0 : Int64) (a1 : Int64) (h : mH) (r : Int64) (h' : mH) (hf : f_M_common_0  a0 a1 h = some (r, h')) : G sc y_M_common prog_10_method_69_code 10 (some .long) 0 0 0 [(0, .long a0), (2, .long a1)] [] h (some (.long r)) h' := by
  unfold f_M_common_0 at hf
  refine g_lload_n (pc := 0) 0 d_M_common_0 rfl rfl ?_
  refine g_lstore (pc := 1) [(4, .long a0), (0, .long a0), (2, .long a1)] d_M_common_1 (Nat.le_of_ble_eq_true rfl) rfl ?_
  refine g_lload_n (pc := 3) 2 d_M_common_3 rfl rfl ?_
  refine g_lstore (pc := 4) [(6, .long a1), (4, .long a0), (0, .long a0), (2, .long a1)] d_M_common_4 (Nat.le_of_ble_eq_true rfl) rfl ?_
  refine g_lv [1, 0] rfl ?_
  exact t_M_common_6  FU _ _ _ _ _  hf
def f_M_common (a0 : Int64) (a1 : Int64) (h : mH) : Option (Int64 × mH) := f_M_common_0 a0 a1 h
theorem c_M_common {sc : Nat × (Nat → Int32)} {a0 : Int64} {a1 : Int64} {h : mH} {r : Int64} {h' : mH} (hf : f_M_common a0 a1 h = some (r, h')) : MM sc y_M_common prog_10_method_69_code 10 (some .long) 0 0 [.long a0, .long a1] h (some (.long r)) h' :=
  mm_of_G (by decide) (Nat.le_of_ble_eq_true rfl) (t_M_common_0 _ _ _ _ _ hf)
/-! M luck (II)J -/
set_option maxRecDepth 100000 in
theorem dd_M_luck_0 : (decode prog_10_method_70_code 0 = .ok (.aload_n 0, 1)) ∧ (decode prog_10_method_70_code 1 = .ok (.iload_n 1, 1)) ∧ (decode prog_10_method_70_code 2 = .ok (.invokevirtual 210, 3)) ∧ (decode prog_10_method_70_code 5 = .ok (.ifCond .eq 13, 3)) ∧ (decode prog_10_method_70_code 8 = .ok (.iload_n 2, 1)) ∧ (decode prog_10_method_70_code 9 = .ok (.i2l, 1)) ∧ (decode prog_10_method_70_code 10 = .ok (.lconst 0, 1)) ∧ (decode prog_10_method_70_code 11 = .ok (.lconst 1, 1)) ∧ (decode prog_10_method_70_code 12 = .ok (.invokestatic 114, 3)) ∧ (decode prog_10_method_70_code 15 = .ok (.ifCond .ne 7, 3)) ∧ (decode prog_10_method_70_code 18 = .ok (.ldc2_w 284, 3)) ∧ (decode prog_10_method_70_code 21 = .ok (.lreturn, 1)) ∧ (decode prog_10_method_70_code 22 = .ok (.lconst 1, 1)) ∧ (decode prog_10_method_70_code 23 = .ok (.lstore_n 3, 1)) ∧ (decode prog_10_method_70_code 24 = .ok (.iconst 0, 1)) ∧ (decode prog_10_method_70_code 25 = .ok (.istore 5, 2)) ∧ (decode prog_10_method_70_code 27 = .ok (.iload 5, 2)) ∧ (decode prog_10_method_70_code 29 = .ok (.bipush 16, 2)) ∧ (decode prog_10_method_70_code 31 = .ok (.if_icmp .ge 26, 3)) ∧ (decode prog_10_method_70_code 34 = .ok (.aload_n 0, 1)) ∧ (decode prog_10_method_70_code 35 = .ok (.getfield 68, 3)) ∧ (decode prog_10_method_70_code 38 = .ok (.iload 5, 2)) ∧ (decode prog_10_method_70_code 40 = .ok (.iload 5, 2)) ∧ (decode prog_10_method_70_code 42 = .ok (.ifCond .ne 7, 3)) := by
  have h : List.drop 0 prog_10_method_70_code.data.toList = 0x2a :: _ := rfl
  refine ⟨zq_k_n 42 h rfl (zq_o_42 _), ?_⟩
  replace h := zq_nx1 (q := 1) h rfl
  refine ⟨zq_k_n 27 h rfl (zq_o_27 _), ?_⟩
  replace h := zq_nx1 (q := 2) h rfl
  refine ⟨zq_k_u2 182 (fun z => .invokevirtual z) 210 h rfl (zq_o_182 _) (by decide +kernel), ?_⟩
  replace h := zq_nx3 (q := 5) h rfl
  refine ⟨zq_k_s2 153 (fun z => .ifCond .eq z) 13 h rfl (zq_o_153 _) (by decide +kernel), ?_⟩
  replace h := zq_nx3 (q := 8) h rfl
  refine ⟨zq_k_n 28 h rfl (zq_o_28 _), ?_⟩
  replace h := zq_nx1 (q := 9) h rfl
  refine ⟨zq_k_n 133 h rfl (zq_o_133 _), ?_⟩
  replace h := zq_nx1 (q := 10) h rfl
  refine ⟨zq_k_n 9 h rfl (zq_o_9 _), ?_⟩
  replace h := zq_nx1 (q := 11) h rfl
  refine ⟨zq_k_n 10 h rfl (zq_o_10 _), ?_⟩
  replace h := zq_nx1 (q := 12) h rfl
  refine ⟨zq_k_u2 184 (fun z => .invokestatic z) 114 h rfl (zq_o_184 _) (by decide +kernel), ?_⟩
  replace h := zq_nx3 (q := 15) h rfl
  refine ⟨zq_k_s2 154 (fun z => .ifCond .ne z) 7 h rfl (zq_o_154 _) (by decide +kernel), ?_⟩
  replace h := zq_nx3 (q := 18) h rfl
  refine ⟨zq_k_u2 20 (fun z => .ldc2_w z) 284 h rfl (zq_o_20 _) (by decide +kernel), ?_⟩
  replace h := zq_nx3 (q := 21) h rfl
  refine ⟨zq_k_n 173 h rfl (zq_o_173 _), ?_⟩
  replace h := zq_nx1 (q := 22) h rfl
  refine ⟨zq_k_n 10 h rfl (zq_o_10 _), ?_⟩
  replace h := zq_nx1 (q := 23) h rfl
  refine ⟨zq_k_n 66 h rfl (zq_o_66 _), ?_⟩
  replace h := zq_nx1 (q := 24) h rfl
  refine ⟨zq_k_n 3 h rfl (zq_o_3 _), ?_⟩
  replace h := zq_nx1 (q := 25) h rfl
  refine ⟨zq_k_u1 54 (fun z => .istore z) 5 h rfl (zq_o_54 _) (by decide +kernel), ?_⟩
  replace h := zq_nx2 (q := 27) h rfl
  refine ⟨zq_k_u1 21 (fun z => .iload z) 5 h rfl (zq_o_21 _) (by decide +kernel), ?_⟩
  replace h := zq_nx2 (q := 29) h rfl
  refine ⟨zq_k_s1 16 (fun z => .bipush z) 16 h rfl (zq_o_16 _) (by decide +kernel), ?_⟩
  replace h := zq_nx2 (q := 31) h rfl
  refine ⟨zq_k_s2 162 (fun z => .if_icmp .ge z) 26 h rfl (zq_o_162 _) (by decide +kernel), ?_⟩
  replace h := zq_nx3 (q := 34) h rfl
  refine ⟨zq_k_n 42 h rfl (zq_o_42 _), ?_⟩
  replace h := zq_nx1 (q := 35) h rfl
  refine ⟨zq_k_u2 180 (fun z => .getfield z) 68 h rfl (zq_o_180 _) (by decide +kernel), ?_⟩
  replace h := zq_nx3 (q := 38) h rfl
  refine ⟨zq_k_u1 21 (fun z => .iload z) 5 h rfl (zq_o_21 _) (by decide +kernel), ?_⟩
  replace h := zq_nx2 (q := 40) h rfl
  refine ⟨zq_k_u1 21 (fun z => .iload z) 5 h rfl (zq_o_21 _) (by decide +kernel), ?_⟩
  replace h := zq_nx2 (q := 42) h rfl
  exact zq_k_s2 154 (fun z => .ifCond .ne z) 7 h rfl (zq_o_154 _) (by decide +kernel)
theorem d_M_luck_0 : decode prog_10_method_70_code 0 = .ok (.aload_n 0, 1) := dd_M_luck_0.1
theorem d_M_luck_1 : decode prog_10_method_70_code 1 = .ok (.iload_n 1, 1) := dd_M_luck_0.2.1
theorem d_M_luck_2 : decode prog_10_method_70_code 2 = .ok (.invokevirtual 210, 3) := dd_M_luck_0.2.2.1
theorem d_M_luck_5 : decode prog_10_method_70_code 5 = .ok (.ifCond .eq 13, 3) := dd_M_luck_0.2.2.2.1
theorem d_M_luck_8 : decode prog_10_method_70_code 8 = .ok (.iload_n 2, 1) := dd_M_luck_0.2.2.2.2.1
theorem d_M_luck_9 : decode prog_10_method_70_code 9 = .ok (.i2l, 1) := dd_M_luck_0.2.2.2.2.2.1
theorem d_M_luck_10 : decode prog_10_method_70_code 10 = .ok (.lconst 0, 1) := dd_M_luck_0.2.2.2.2.2.2.1
theorem d_M_luck_11 : decode prog_10_method_70_code 11 = .ok (.lconst 1, 1) := dd_M_luck_0.2.2.2.2.2.2.2.1
theorem d_M_luck_12 : decode prog_10_method_70_code 12 = .ok (.invokestatic 114, 3) := dd_M_luck_0.2.2.2.2.2.2.2.2.1
theorem d_M_luck_15 : decode prog_10_method_70_code 15 = .ok (.ifCond .ne 7, 3) := dd_M_luck_0.2.2.2.2.2.2.2.2.2.1
theorem d_M_luck_18 : decode prog_10_method_70_code 18 = .ok (.ldc2_w 284, 3) := dd_M_luck_0.2.2.2.2.2.2.2.2.2.2.1
theorem d_M_luck_21 : decode prog_10_method_70_code 21 = .ok (.lreturn, 1) := dd_M_luck_0.2.2.2.2.2.2.2.2.2.2.2.1
theorem d_M_luck_22 : decode prog_10_method_70_code 22 = .ok (.lconst 1, 1) := dd_M_luck_0.2.2.2.2.2.2.2.2.2.2.2.2.1
theorem d_M_luck_23 : decode prog_10_method_70_code 23 = .ok (.lstore_n 3, 1) := dd_M_luck_0.2.2.2.2.2.2.2.2.2.2.2.2.2.1
theorem d_M_luck_24 : decode prog_10_method_70_code 24 = .ok (.iconst 0, 1) := dd_M_luck_0.2.2.2.2.2.2.2.2.2.2.2.2.2.2.1
theorem d_M_luck_25 : decode prog_10_method_70_code 25 = .ok (.istore 5, 2) := dd_M_luck_0.2.2.2.2.2.2.2.2.2.2.2.2.2.2.2.1
theorem d_M_luck_27 : decode prog_10_method_70_code 27 = .ok (.iload 5, 2) := dd_M_luck_0.2.2.2.2.2.2.2.2.2.2.2.2.2.2.2.2.1
theorem d_M_luck_29 : decode prog_10_method_70_code 29 = .ok (.bipush 16, 2) := dd_M_luck_0.2.2.2.2.2.2.2.2.2.2.2.2.2.2.2.2.2.1
theorem d_M_luck_31 : decode prog_10_method_70_code 31 = .ok (.if_icmp .ge 26, 3) := dd_M_luck_0.2.2.2.2.2.2.2.2.2.2.2.2.2.2.2.2.2.2.1
theorem d_M_luck_34 : decode prog_10_method_70_code 34 = .ok (.aload_n 0, 1) := dd_M_luck_0.2.2.2.2.2.2.2.2.2.2.2.2.2.2.2.2.2.2.2.1
theorem d_M_luck_35 : decode prog_10_method_70_code 35 = .ok (.getfield 68, 3) := dd_M_luck_0.2.2.2.2.2.2.2.2.2.2.2.2.2.2.2.2.2.2.2.2.1
theorem d_M_luck_38 : decode prog_10_method_70_code 38 = .ok (.iload 5, 2) := dd_M_luck_0.2.2.2.2.2.2.2.2.2.2.2.2.2.2.2.2.2.2.2.2.2.1
theorem d_M_luck_40 : decode prog_10_method_70_code 40 = .ok (.iload 5, 2) := dd_M_luck_0.2.2.2.2.2.2.2.2.2.2.2.2.2.2.2.2.2.2.2.2.2.2.1
theorem d_M_luck_42 : decode prog_10_method_70_code 42 = .ok (.ifCond .ne 7, 3) := dd_M_luck_0.2.2.2.2.2.2.2.2.2.2.2.2.2.2.2.2.2.2.2.2.2.2.2
set_option maxRecDepth 100000 in
theorem dd_M_luck_45 : (decode prog_10_method_70_code 45 = .ok (.lconst 1, 1)) ∧ (decode prog_10_method_70_code 46 = .ok (.goto 4, 3)) ∧ (decode prog_10_method_70_code 49 = .ok (.lconst 0, 1)) ∧ (decode prog_10_method_70_code 50 = .ok (.lastore, 1)) ∧ (decode prog_10_method_70_code 51 = .ok (.iinc 5 1, 3)) ∧ (decode prog_10_method_70_code 54 = .ok (.goto (-27), 3)) ∧ (decode prog_10_method_70_code 57 = .ok (.iconst 0, 1)) ∧ (decode prog_10_method_70_code 58 = .ok (.istore 5, 2)) ∧ (decode prog_10_method_70_code 60 = .ok (.iload 5, 2)) ∧ (decode prog_10_method_70_code 62 = .ok (.aload_n 0, 1)) ∧ (decode prog_10_method_70_code 63 = .ok (.getfield 109, 3)) ∧ (decode prog_10_method_70_code 66 = .ok (.if_icmp .ge 109, 3)) ∧ (decode prog_10_method_70_code 69 = .ok (.iconst 0, 1)) ∧ (decode prog_10_method_70_code 70 = .ok (.istore 6, 2)) ∧ (decode prog_10_method_70_code 72 = .ok (.iload 6, 2)) ∧ (decode prog_10_method_70_code 74 = .ok (.aload_n 0, 1)) ∧ (decode prog_10_method_70_code 75 = .ok (.iload 5, 2)) ∧ (decode prog_10_method_70_code 77 = .ok (.iload_n 1, 1)) ∧ (decode prog_10_method_70_code 78 = .ok (.invokevirtual 270, 3)) ∧ (decode prog_10_method_70_code 81 = .ok (.if_icmp .ge 88, 3)) ∧ (decode prog_10_method_70_code 84 = .ok (.bipush 15, 2)) ∧ (decode prog_10_method_70_code 86 = .ok (.istore 7, 2)) ∧ (decode prog_10_method_70_code 88 = .ok (.iload 7, 2)) ∧ (decode prog_10_method_70_code 90 = .ok (.ifCond .lt 67, 3)) := by
  have h : List.drop 45 prog_10_method_70_code.data.toList = 0x0a :: _ := rfl
  refine ⟨zq_k_n 10 h rfl (zq_o_10 _), ?_⟩
  replace h := zq_nx1 (q := 46) h rfl
  refine ⟨zq_k_s2 167 (fun z => .goto z) 4 h rfl (zq_o_167 _) (by decide +kernel), ?_⟩
  replace h := zq_nx3 (q := 49) h rfl
  refine ⟨zq_k_n 9 h rfl (zq_o_9 _), ?_⟩
  replace h := zq_nx1 (q := 50) h rfl
  refine ⟨zq_k_n 80 h rfl (zq_o_80 _), ?_⟩
  replace h := zq_nx1 (q := 51) h rfl
  refine ⟨zq_k_iinc 5 1 h rfl (zq_o_132 _) (by decide +kernel) (by decide +kernel), ?_⟩
  replace h := zq_nx3 (q := 54) h rfl
  refine ⟨zq_k_s2 167 (fun z => .goto z) (-27) h rfl (zq_o_167 _) (by decide +kernel), ?_⟩
  replace h := zq_nx3 (q := 57) h rfl
  refine ⟨zq_k_n 3 h rfl (zq_o_3 _), ?_⟩
  replace h := zq_nx1 (q := 58) h rfl
  refine ⟨zq_k_u1 54 (fun z => .istore z) 5 h rfl (zq_o_54 _) (by decide +kernel), ?_⟩
  replace h := zq_nx2 (q := 60) h rfl
  refine ⟨zq_k_u1 21 (fun z => .iload z) 5 h rfl (zq_o_21 _) (by decide +kernel), ?_⟩
  replace h := zq_nx2 (q := 62) h rfl
  refine ⟨zq_k_n 42 h rfl (zq_o_42 _), ?_⟩
  replace h := zq_nx1 (q := 63) h rfl
  refine ⟨zq_k_u2 180 (fun z => .getfield z) 109 h rfl (zq_o_180 _) (by decide +kernel), ?_⟩
  replace h := zq_nx3 (q := 66) h rfl
  refine ⟨zq_k_s2 162 (fun z => .if_icmp .ge z) 109 h rfl (zq_o_162 _) (by decide +kernel), ?_⟩
  replace h := zq_nx3 (q := 69) h rfl
  refine ⟨zq_k_n 3 h rfl (zq_o_3 _), ?_⟩
  replace h := zq_nx1 (q := 70) h rfl
  refine ⟨zq_k_u1 54 (fun z => .istore z) 6 h rfl (zq_o_54 _) (by decide +kernel), ?_⟩
  replace h := zq_nx2 (q := 72) h rfl
  refine ⟨zq_k_u1 21 (fun z => .iload z) 6 h rfl (zq_o_21 _) (by decide +kernel), ?_⟩
  replace h := zq_nx2 (q := 74) h rfl
  refine ⟨zq_k_n 42 h rfl (zq_o_42 _), ?_⟩
  replace h := zq_nx1 (q := 75) h rfl
  refine ⟨zq_k_u1 21 (fun z => .iload z) 5 h rfl (zq_o_21 _) (by decide +kernel), ?_⟩
  replace h := zq_nx2 (q := 77) h rfl
  refine ⟨zq_k_n 27 h rfl (zq_o_27 _), ?_⟩
  replace h := zq_nx1 (q := 78) h rfl
  refine ⟨zq_k_u2 182 (fun z => .invokevirtual z) 270 h rfl (zq_o_182 _) (by decide +kernel), ?_⟩
  replace h := zq_nx3 (q := 81) h rfl
  refine ⟨zq_k_s2 162 (fun z => .if_icmp .ge z) 88 h rfl (zq_o_162 _) (by decide +kernel), ?_⟩
  replace h := zq_nx3 (q := 84) h rfl
  refine ⟨zq_k_s1 16 (fun z => .bipush z) 15 h rfl (zq_o_16 _) (by decide +kernel), ?_⟩
  replace h := zq_nx2 (q := 86) h rfl
  refine ⟨zq_k_u1 54 (fun z => .istore z) 7 h rfl (zq_o_54 _) (by decide +kernel), ?_⟩
  replace h := zq_nx2 (q := 88) h rfl
  refine ⟨zq_k_u1 21 (fun z => .iload z) 7 h rfl (zq_o_21 _) (by decide +kernel), ?_⟩
  replace h := zq_nx2 (q := 90) h rfl
  exact zq_k_s2 155 (fun z => .ifCond .lt z) 67 h rfl (zq_o_155 _) (by decide +kernel)
theorem d_M_luck_45 : decode prog_10_method_70_code 45 = .ok (.lconst 1, 1) := dd_M_luck_45.1
theorem d_M_luck_46 : decode prog_10_method_70_code 46 = .ok (.goto 4, 3) := dd_M_luck_45.2.1
theorem d_M_luck_49 : decode prog_10_method_70_code 49 = .ok (.lconst 0, 1) := dd_M_luck_45.2.2.1
theorem d_M_luck_50 : decode prog_10_method_70_code 50 = .ok (.lastore, 1) := dd_M_luck_45.2.2.2.1
theorem d_M_luck_51 : decode prog_10_method_70_code 51 = .ok (.iinc 5 1, 3) := dd_M_luck_45.2.2.2.2.1
theorem d_M_luck_54 : decode prog_10_method_70_code 54 = .ok (.goto (-27), 3) := dd_M_luck_45.2.2.2.2.2.1
theorem d_M_luck_57 : decode prog_10_method_70_code 57 = .ok (.iconst 0, 1) := dd_M_luck_45.2.2.2.2.2.2.1
theorem d_M_luck_58 : decode prog_10_method_70_code 58 = .ok (.istore 5, 2) := dd_M_luck_45.2.2.2.2.2.2.2.1
theorem d_M_luck_60 : decode prog_10_method_70_code 60 = .ok (.iload 5, 2) := dd_M_luck_45.2.2.2.2.2.2.2.2.1
theorem d_M_luck_62 : decode prog_10_method_70_code 62 = .ok (.aload_n 0, 1) := dd_M_luck_45.2.2.2.2.2.2.2.2.2.1
theorem d_M_luck_63 : decode prog_10_method_70_code 63 = .ok (.getfield 109, 3) := dd_M_luck_45.2.2.2.2.2.2.2.2.2.2.1
theorem d_M_luck_66 : decode prog_10_method_70_code 66 = .ok (.if_icmp .ge 109, 3) := dd_M_luck_45.2.2.2.2.2.2.2.2.2.2.2.1
theorem d_M_luck_69 : decode prog_10_method_70_code 69 = .ok (.iconst 0, 1) := dd_M_luck_45.2.2.2.2.2.2.2.2.2.2.2.2.1
theorem d_M_luck_70 : decode prog_10_method_70_code 70 = .ok (.istore 6, 2) := dd_M_luck_45.2.2.2.2.2.2.2.2.2.2.2.2.2.1
theorem d_M_luck_72 : decode prog_10_method_70_code 72 = .ok (.iload 6, 2) := dd_M_luck_45.2.2.2.2.2.2.2.2.2.2.2.2.2.2.1
theorem d_M_luck_74 : decode prog_10_method_70_code 74 = .ok (.aload_n 0, 1) := dd_M_luck_45.2.2.2.2.2.2.2.2.2.2.2.2.2.2.2.1
theorem d_M_luck_75 : decode prog_10_method_70_code 75 = .ok (.iload 5, 2) := dd_M_luck_45.2.2.2.2.2.2.2.2.2.2.2.2.2.2.2.2.1
theorem d_M_luck_77 : decode prog_10_method_70_code 77 = .ok (.iload_n 1, 1) := dd_M_luck_45.2.2.2.2.2.2.2.2.2.2.2.2.2.2.2.2.2.1
theorem d_M_luck_78 : decode prog_10_method_70_code 78 = .ok (.invokevirtual 270, 3) := dd_M_luck_45.2.2.2.2.2.2.2.2.2.2.2.2.2.2.2.2.2.2.1
theorem d_M_luck_81 : decode prog_10_method_70_code 81 = .ok (.if_icmp .ge 88, 3) := dd_M_luck_45.2.2.2.2.2.2.2.2.2.2.2.2.2.2.2.2.2.2.2.1
theorem d_M_luck_84 : decode prog_10_method_70_code 84 = .ok (.bipush 15, 2) := dd_M_luck_45.2.2.2.2.2.2.2.2.2.2.2.2.2.2.2.2.2.2.2.2.1
theorem d_M_luck_86 : decode prog_10_method_70_code 86 = .ok (.istore 7, 2) := dd_M_luck_45.2.2.2.2.2.2.2.2.2.2.2.2.2.2.2.2.2.2.2.2.2.1
theorem d_M_luck_88 : decode prog_10_method_70_code 88 = .ok (.iload 7, 2) := dd_M_luck_45.2.2.2.2.2.2.2.2.2.2.2.2.2.2.2.2.2.2.2.2.2.2.1
theorem d_M_luck_90 : decode prog_10_method_70_code 90 = .ok (.ifCond .lt 67, 3) := dd_M_luck_45.2.2.2.2.2.2.2.2.2.2.2.2.2.2.2.2.2.2.2.2.2.2.2
set_option maxRecDepth 100000 in
theorem dd_M_luck_93 : (decode prog_10_method_70_code 93 = .ok (.iload 7, 2)) ∧ (decode prog_10_method_70_code 95 = .ok (.ifCond .ne 7, 3)) ∧ (decode prog_10_method_70_code 98 = .ok (.lconst 0, 1)) ∧ (decode prog_10_method_70_code 99 = .ok (.goto 12, 3)) ∧ (decode prog_10_method_70_code 102 = .ok (.aload_n 0, 1)) ∧ (decode prog_10_method_70_code 103 = .ok (.getfield 68, 3)) ∧ (decode prog_10_method_70_code 106 = .ok (.iload 7, 2)) ∧ (decode prog_10_method_70_code 108 = .ok (.iconst 1, 1)) ∧ (decode prog_10_method_70_code 109 = .ok (.isub, 1)) ∧ (decode prog_10_method_70_code 110 = .ok (.laload, 1)) ∧ (decode prog_10_method_70_code 111 = .ok (.lstore 8, 2)) ∧ (decode prog_10_method_70_code 113 = .ok (.aload_n 0, 1)) ∧ (decode prog_10_method_70_code 114 = .ok (.getfield 68, 3)) ∧ (decode prog_10_method_70_code 117 = .ok (.iload 7, 2)) ∧ (decode prog_10_method_70_code 119 = .ok (.aload_n 0, 1)) ∧ (decode prog_10_method_70_code 120 = .ok (.getfield 68, 3)) ∧ (decode prog_10_method_70_code 123 = .ok (.iload 7, 2)) ∧ (decode prog_10_method_70_code 125 = .ok (.laload, 1)) ∧ (decode prog_10_method_70_code 126 = .ok (.bipush 10, 2)) ∧ (decode prog_10_method_70_code 128 = .ok (.aload_n 0, 1)) ∧ (decode prog_10_method_70_code 129 = .ok (.getfield 29, 3)) ∧ (decode prog_10_method_70_code 132 = .ok (.iload 5, 2)) ∧ (decode prog_10_method_70_code 134 = .ok (.iaload, 1)) ∧ (decode prog_10_method_70_code 135 = .ok (.isub, 1)) := by
  have h : List.drop 93 prog_10_method_70_code.data.toList = 0x15 :: _ := rfl
  refine ⟨zq_k_u1 21 (fun z => .iload z) 7 h rfl (zq_o_21 _) (by decide +kernel), ?_⟩
  replace h := zq_nx2 (q := 95) h rfl
  refine ⟨zq_k_s2 154 (fun z => .ifCond .ne z) 7 h rfl (zq_o_154 _) (by decide +kernel), ?_⟩
  replace h := zq_nx3 (q := 98) h rfl
  refine ⟨zq_k_n 9 h rfl (zq_o_9 _), ?_⟩
  replace h := zq_nx1 (q := 99) h rfl
  refine ⟨zq_k_s2 167 (fun z => .goto z) 12 h rfl (zq_o_167 _) (by decide +kernel), ?_⟩
  replace h := zq_nx3 (q := 102) h rfl
  refine ⟨zq_k_n 42 h rfl (zq_o_42 _), ?_⟩
  replace h := zq_nx1 (q := 103) h rfl
  refine ⟨zq_k_u2 180 (fun z => .getfield z) 68 h rfl (zq_o_180 _) (by decide +kernel), ?_⟩
  replace h := zq_nx3 (q := 106) h rfl
  refine ⟨zq_k_u1 21 (fun z => .iload z) 7 h rfl (zq_o_21 _) (by decide +kernel), ?_⟩
  replace h := zq_nx2 (q := 108) h rfl
  refine ⟨zq_k_n 4 h rfl (zq_o_4 _), ?_⟩
  replace h := zq_nx1 (q := 109) h rfl
  refine ⟨zq_k_n 100 h rfl (zq_o_100 _), ?_⟩
  replace h := zq_nx1 (q := 110) h rfl
  refine ⟨zq_k_n 47 h rfl (zq_o_47 _), ?_⟩
  replace h := zq_nx1 (q := 111) h rfl
  refine ⟨zq_k_u1 55 (fun z => .lstore z) 8 h rfl (zq_o_55 _) (by decide +kernel), ?_⟩
  replace h := zq_nx2 (q := 113) h rfl
  refine ⟨zq_k_n 42 h rfl (zq_o_42 _), ?_⟩
  replace h := zq_nx1 (q := 114) h rfl
  refine ⟨zq_k_u2 180 (fun z => .getfield z) 68 h rfl (zq_o_180 _) (by decide +kernel), ?_⟩
  replace h := zq_nx3 (q := 117) h rfl
  refine ⟨zq_k_u1 21 (fun z => .iload z) 7 h rfl (zq_o_21 _) (by decide +kernel), ?_⟩
  replace h := zq_nx2 (q := 119) h rfl
  refine ⟨zq_k_n 42 h rfl (zq_o_42 _), ?_⟩
  replace h := zq_nx1 (q := 120) h rfl
  refine ⟨zq_k_u2 180 (fun z => .getfield z) 68 h rfl (zq_o_180 _) (by decide +kernel), ?_⟩
  replace h := zq_nx3 (q := 123) h rfl
  refine ⟨zq_k_u1 21 (fun z => .iload z) 7 h rfl (zq_o_21 _) (by decide +kernel), ?_⟩
  replace h := zq_nx2 (q := 125) h rfl
  refine ⟨zq_k_n 47 h rfl (zq_o_47 _), ?_⟩
  replace h := zq_nx1 (q := 126) h rfl
  refine ⟨zq_k_s1 16 (fun z => .bipush z) 10 h rfl (zq_o_16 _) (by decide +kernel), ?_⟩
  replace h := zq_nx2 (q := 128) h rfl
  refine ⟨zq_k_n 42 h rfl (zq_o_42 _), ?_⟩
  replace h := zq_nx1 (q := 129) h rfl
  refine ⟨zq_k_u2 180 (fun z => .getfield z) 29 h rfl (zq_o_180 _) (by decide +kernel), ?_⟩
  replace h := zq_nx3 (q := 132) h rfl
  refine ⟨zq_k_u1 21 (fun z => .iload z) 5 h rfl (zq_o_21 _) (by decide +kernel), ?_⟩
  replace h := zq_nx2 (q := 134) h rfl
  refine ⟨zq_k_n 46 h rfl (zq_o_46 _), ?_⟩
  replace h := zq_nx1 (q := 135) h rfl
  exact zq_k_n 100 h rfl (zq_o_100 _)
theorem d_M_luck_93 : decode prog_10_method_70_code 93 = .ok (.iload 7, 2) := dd_M_luck_93.1
theorem d_M_luck_95 : decode prog_10_method_70_code 95 = .ok (.ifCond .ne 7, 3) := dd_M_luck_93.2.1
theorem d_M_luck_98 : decode prog_10_method_70_code 98 = .ok (.lconst 0, 1) := dd_M_luck_93.2.2.1
theorem d_M_luck_99 : decode prog_10_method_70_code 99 = .ok (.goto 12, 3) := dd_M_luck_93.2.2.2.1
theorem d_M_luck_102 : decode prog_10_method_70_code 102 = .ok (.aload_n 0, 1) := dd_M_luck_93.2.2.2.2.1
theorem d_M_luck_103 : decode prog_10_method_70_code 103 = .ok (.getfield 68, 3) := dd_M_luck_93.2.2.2.2.2.1
theorem d_M_luck_106 : decode prog_10_method_70_code 106 = .ok (.iload 7, 2) := dd_M_luck_93.2.2.2.2.2.2.1
theorem d_M_luck_108 : decode prog_10_method_70_code 108 = .ok (.iconst 1, 1) := dd_M_luck_93.2.2.2.2.2.2.2.1
theorem d_M_luck_109 : decode prog_10_method_70_code 109 = .ok (.isub, 1) := dd_M_luck_93.2.2.2.2.2.2.2.2.1
theorem d_M_luck_110 : decode prog_10_method_70_code 110 = .ok (.laload, 1) := dd_M_luck_93.2.2.2.2.2.2.2.2.2.1
theorem d_M_luck_111 : decode prog_10_method_70_code 111 = .ok (.lstore 8, 2) := dd_M_luck_93.2.2.2.2.2.2.2.2.2.2.1
theorem d_M_luck_113 : decode prog_10_method_70_code 113 = .ok (.aload_n 0, 1) := dd_M_luck_93.2.2.2.2.2.2.2.2.2.2.2.1
theorem d_M_luck_114 : decode prog_10_method_70_code 114 = .ok (.getfield 68, 3) := dd_M_luck_93.2.2.2.2.2.2.2.2.2.2.2.2.1
theorem d_M_luck_117 : decode prog_10_method_70_code 117 = .ok (.iload 7, 2) := dd_M_luck_93.2.2.2.2.2.2.2.2.2.2.2.2.2.1
theorem d_M_luck_119 : decode prog_10_method_70_code 119 = .ok (.aload_n 0, 1) := dd_M_luck_93.2.2.2.2.2.2.2.2.2.2.2.2.2.2.1
theorem d_M_luck_120 : decode prog_10_method_70_code 120 = .ok (.getfield 68, 3) := dd_M_luck_93.2.2.2.2.2.2.2.2.2.2.2.2.2.2.2.1
theorem d_M_luck_123 : decode prog_10_method_70_code 123 = .ok (.iload 7, 2) := dd_M_luck_93.2.2.2.2.2.2.2.2.2.2.2.2.2.2.2.2.1
theorem d_M_luck_125 : decode prog_10_method_70_code 125 = .ok (.laload, 1) := dd_M_luck_93.2.2.2.2.2.2.2.2.2.2.2.2.2.2.2.2.2.1
theorem d_M_luck_126 : decode prog_10_method_70_code 126 = .ok (.bipush 10, 2) := dd_M_luck_93.2.2.2.2.2.2.2.2.2.2.2.2.2.2.2.2.2.2.1
theorem d_M_luck_128 : decode prog_10_method_70_code 128 = .ok (.aload_n 0, 1) := dd_M_luck_93.2.2.2.2.2.2.2.2.2.2.2.2.2.2.2.2.2.2.2.1
theorem d_M_luck_129 : decode prog_10_method_70_code 129 = .ok (.getfield 29, 3) := dd_M_luck_93.2.2.2.2.2.2.2.2.2.2.2.2.2.2.2.2.2.2.2.2.1
theorem d_M_luck_132 : decode prog_10_method_70_code 132 = .ok (.iload 5, 2) := dd_M_luck_93.2.2.2.2.2.2.2.2.2.2.2.2.2.2.2.2.2.2.2.2.2.1
theorem d_M_luck_134 : decode prog_10_method_70_code 134 = .ok (.iaload, 1) := dd_M_luck_93.2.2.2.2.2.2.2.2.2.2.2.2.2.2.2.2.2.2.2.2.2.2.1
theorem d_M_luck_135 : decode prog_10_method_70_code 135 = .ok (.isub, 1) := dd_M_luck_93.2.2.2.2.2.2.2.2.2.2.2.2.2.2.2.2.2.2.2.2.2.2.2
set_option maxRecDepth 100000 in
theorem dd_M_luck_136 : (decode prog_10_method_70_code 136 = .ok (.i2l, 1)) ∧ (decode prog_10_method_70_code 137 = .ok (.lmul, 1)) ∧ (decode prog_10_method_70_code 138 = .ok (.lload 8, 2)) ∧ (decode prog_10_method_70_code 140 = .ok (.aload_n 0, 1)) ∧ (decode prog_10_method_70_code 141 = .ok (.getfield 29, 3)) ∧ (decode prog_10_method_70_code 144 = .ok (.iload 5, 2)) ∧ (decode prog_10_method_70_code 146 = .ok (.iaload, 1)) ∧ (decode prog_10_method_70_code 147 = .ok (.i2l, 1)) ∧ (decode prog_10_method_70_code 148 = .ok (.lmul, 1)) ∧ (decode prog_10_method_70_code 149 = .ok (.ladd, 1)) ∧ (decode prog_10_method_70_code 150 = .ok (.lastore, 1)) ∧ (decode prog_10_method_70_code 151 = .ok (.iinc 7 (-1), 3)) ∧ (decode prog_10_method_70_code 154 = .ok (.goto (-66), 3)) ∧ (decode prog_10_method_70_code 157 = .ok (.lload_n 3, 1)) ∧ (decode prog_10_method_70_code 158 = .ok (.ldc2_w 286, 3)) ∧ (decode prog_10_method_70_code 161 = .ok (.lmul, 1)) ∧ (decode prog_10_method_70_code 162 = .ok (.lstore_n 3, 1)) ∧ (decode prog_10_method_70_code 163 = .ok (.iinc 6 1, 3)) ∧ (decode prog_10_method_70_code 166 = .ok (.goto (-94), 3)) ∧ (decode prog_10_method_70_code 169 = .ok (.iinc 5 1, 3)) ∧ (decode prog_10_method_70_code 172 = .ok (.goto (-112), 3)) ∧ (decode prog_10_method_70_code 175 = .ok (.lconst 0, 1)) ∧ (decode prog_10_method_70_code 176 = .ok (.lstore 5, 2)) ∧ (decode prog_10_method_70_code 178 = .ok (.aload_n 0, 1)) := by
  have h : List.drop 136 prog_10_method_70_code.data.toList = 0x85 :: _ := rfl
  refine ⟨zq_k_n 133 h rfl (zq_o_133 _), ?_⟩
  replace h := zq_nx1 (q := 137) h rfl
  refine ⟨zq_k_n 105 h rfl (zq_o_105 _), ?_⟩
  replace h := zq_nx1 (q := 138) h rfl
  refine ⟨zq_k_u1 22 (fun z => .lload z) 8 h rfl (zq_o_22 _) (by decide +kernel), ?_⟩
  replace h := zq_nx2 (q := 140) h rfl
  refine ⟨zq_k_n 42 h rfl (zq_o_42 _), ?_⟩
  replace h := zq_nx1 (q := 141) h rfl
  refine ⟨zq_k_u2 180 (fun z => .getfield z) 29 h rfl (zq_o_180 _) (by decide +kernel), ?_⟩
  replace h := zq_nx3 (q := 144) h rfl
  refine ⟨zq_k_u1 21 (fun z => .iload z) 5 h rfl (zq_o_21 _) (by decide +kernel), ?_⟩
  replace h := zq_nx2 (q := 146) h rfl
  refine ⟨zq_k_n 46 h rfl (zq_o_46 _), ?_⟩
  replace h := zq_nx1 (q := 147) h rfl
  refine ⟨zq_k_n 133 h rfl (zq_o_133 _), ?_⟩
  replace h := zq_nx1 (q := 148) h rfl
  refine ⟨zq_k_n 105 h rfl (zq_o_105 _), ?_⟩
  replace h := zq_nx1 (q := 149) h rfl
  refine ⟨zq_k_n 97 h rfl (zq_o_97 _), ?_⟩
  replace h := zq_nx1 (q := 150) h rfl
  refine ⟨zq_k_n 80 h rfl (zq_o_80 _), ?_⟩
  replace h := zq_nx1 (q := 151) h rfl
  refine ⟨zq_k_iinc 7 (-1) h rfl (zq_o_132 _) (by decide +kernel) (by decide +kernel), ?_⟩
  replace h := zq_nx3 (q := 154) h rfl
  refine ⟨zq_k_s2 167 (fun z => .goto z) (-66) h rfl (zq_o_167 _) (by decide +kernel), ?_⟩
  replace h := zq_nx3 (q := 157) h rfl
  refine ⟨zq_k_n 33 h rfl (zq_o_33 _), ?_⟩
  replace h := zq_nx1 (q := 158) h rfl
  refine ⟨zq_k_u2 20 (fun z => .ldc2_w z) 286 h rfl (zq_o_20 _) (by decide +kernel), ?_⟩
  replace h := zq_nx3 (q := 161) h rfl
  refine ⟨zq_k_n 105 h rfl (zq_o_105 _), ?_⟩
  replace h := zq_nx1 (q := 162) h rfl
  refine ⟨zq_k_n 66 h rfl (zq_o_66 _), ?_⟩
  replace h := zq_nx1 (q := 163) h rfl
  refine ⟨zq_k_iinc 6 1 h rfl (zq_o_132 _) (by decide +kernel) (by decide +kernel), ?_⟩
  replace h := zq_nx3 (q := 166) h rfl
  refine ⟨zq_k_s2 167 (fun z => .goto z) (-94) h rfl (zq_o_167 _) (by decide +kernel), ?_⟩
  replace h := zq_nx3 (q := 169) h rfl
  refine ⟨zq_k_iinc 5 1 h rfl (zq_o_132 _) (by decide +kernel) (by decide +kernel), ?_⟩
  replace h := zq_nx3 (q := 172) h rfl
  refine ⟨zq_k_s2 167 (fun z => .goto z) (-112) h rfl (zq_o_167 _) (by decide +kernel), ?_⟩
  replace h := zq_nx3 (q := 175) h rfl
  refine ⟨zq_k_n 9 h rfl (zq_o_9 _), ?_⟩
  replace h := zq_nx1 (q := 176) h rfl
  refine ⟨zq_k_u1 55 (fun z => .lstore z) 5 h rfl (zq_o_55 _) (by decide +kernel), ?_⟩
  replace h := zq_nx2 (q := 178) h rfl
  exact zq_k_n 42 h rfl (zq_o_42 _)
theorem d_M_luck_136 : decode prog_10_method_70_code 136 = .ok (.i2l, 1) := dd_M_luck_136.1
theorem d_M_luck_137 : decode prog_10_method_70_code 137 = .ok (.lmul, 1) := dd_M_luck_136.2.1
theorem d_M_luck_138 : decode prog_10_method_70_code 138 = .ok (.lload 8, 2) := dd_M_luck_136.2.2.1
theorem d_M_luck_140 : decode prog_10_method_70_code 140 = .ok (.aload_n 0, 1) := dd_M_luck_136.2.2.2.1
theorem d_M_luck_141 : decode prog_10_method_70_code 141 = .ok (.getfield 29, 3) := dd_M_luck_136.2.2.2.2.1
theorem d_M_luck_144 : decode prog_10_method_70_code 144 = .ok (.iload 5, 2) := dd_M_luck_136.2.2.2.2.2.1
theorem d_M_luck_146 : decode prog_10_method_70_code 146 = .ok (.iaload, 1) := dd_M_luck_136.2.2.2.2.2.2.1
theorem d_M_luck_147 : decode prog_10_method_70_code 147 = .ok (.i2l, 1) := dd_M_luck_136.2.2.2.2.2.2.2.1
theorem d_M_luck_148 : decode prog_10_method_70_code 148 = .ok (.lmul, 1) := dd_M_luck_136.2.2.2.2.2.2.2.2.1
theorem d_M_luck_149 : decode prog_10_method_70_code 149 = .ok (.ladd, 1) := dd_M_luck_136.2.2.2.2.2.2.2.2.2.1
theorem d_M_luck_150 : decode prog_10_method_70_code 150 = .ok (.lastore, 1) := dd_M_luck_136.2.2.2.2.2.2.2.2.2.2.1
theorem d_M_luck_151 : decode prog_10_method_70_code 151 = .ok (.iinc 7 (-1), 3) := dd_M_luck_136.2.2.2.2.2.2.2.2.2.2.2.1
theorem d_M_luck_154 : decode prog_10_method_70_code 154 = .ok (.goto (-66), 3) := dd_M_luck_136.2.2.2.2.2.2.2.2.2.2.2.2.1
theorem d_M_luck_157 : decode prog_10_method_70_code 157 = .ok (.lload_n 3, 1) := dd_M_luck_136.2.2.2.2.2.2.2.2.2.2.2.2.2.1
theorem d_M_luck_158 : decode prog_10_method_70_code 158 = .ok (.ldc2_w 286, 3) := dd_M_luck_136.2.2.2.2.2.2.2.2.2.2.2.2.2.2.1
theorem d_M_luck_161 : decode prog_10_method_70_code 161 = .ok (.lmul, 1) := dd_M_luck_136.2.2.2.2.2.2.2.2.2.2.2.2.2.2.2.1
theorem d_M_luck_162 : decode prog_10_method_70_code 162 = .ok (.lstore_n 3, 1) := dd_M_luck_136.2.2.2.2.2.2.2.2.2.2.2.2.2.2.2.2.1
theorem d_M_luck_163 : decode prog_10_method_70_code 163 = .ok (.iinc 6 1, 3) := dd_M_luck_136.2.2.2.2.2.2.2.2.2.2.2.2.2.2.2.2.2.1
theorem d_M_luck_166 : decode prog_10_method_70_code 166 = .ok (.goto (-94), 3) := dd_M_luck_136.2.2.2.2.2.2.2.2.2.2.2.2.2.2.2.2.2.2.1
theorem d_M_luck_169 : decode prog_10_method_70_code 169 = .ok (.iinc 5 1, 3) := dd_M_luck_136.2.2.2.2.2.2.2.2.2.2.2.2.2.2.2.2.2.2.2.1
theorem d_M_luck_172 : decode prog_10_method_70_code 172 = .ok (.goto (-112), 3) := dd_M_luck_136.2.2.2.2.2.2.2.2.2.2.2.2.2.2.2.2.2.2.2.2.1
theorem d_M_luck_175 : decode prog_10_method_70_code 175 = .ok (.lconst 0, 1) := dd_M_luck_136.2.2.2.2.2.2.2.2.2.2.2.2.2.2.2.2.2.2.2.2.2.1
theorem d_M_luck_176 : decode prog_10_method_70_code 176 = .ok (.lstore 5, 2) := dd_M_luck_136.2.2.2.2.2.2.2.2.2.2.2.2.2.2.2.2.2.2.2.2.2.2.1
theorem d_M_luck_178 : decode prog_10_method_70_code 178 = .ok (.aload_n 0, 1) := dd_M_luck_136.2.2.2.2.2.2.2.2.2.2.2.2.2.2.2.2.2.2.2.2.2.2.2
set_option maxRecDepth 100000 in
theorem dd_M_luck_179 : (decode prog_10_method_70_code 179 = .ok (.iload_n 1, 1)) ∧ (decode prog_10_method_70_code 180 = .ok (.invokevirtual 204, 3)) ∧ (decode prog_10_method_70_code 183 = .ok (.istore 7, 2)) ∧ (decode prog_10_method_70_code 185 = .ok (.iload 7, 2)) ∧ (decode prog_10_method_70_code 187 = .ok (.bipush 16, 2)) ∧ (decode prog_10_method_70_code 189 = .ok (.if_icmp .ge 21, 3)) ∧ (decode prog_10_method_70_code 192 = .ok (.lload 5, 2)) ∧ (decode prog_10_method_70_code 194 = .ok (.aload_n 0, 1)) ∧ (decode prog_10_method_70_code 195 = .ok (.getfield 68, 3)) ∧ (decode prog_10_method_70_code 198 = .ok (.iload 7, 2)) ∧ (decode prog_10_method_70_code 200 = .ok (.laload, 1)) ∧ (decode prog_10_method_70_code 201 = .ok (.ladd, 1)) ∧ (decode prog_10_method_70_code 202 = .ok (.lstore 5, 2)) ∧ (decode prog_10_method_70_code 204 = .ok (.iinc 7 1, 3)) ∧ (decode prog_10_method_70_code 207 = .ok (.goto (-22), 3)) ∧ (decode prog_10_method_70_code 210 = .ok (.lload_n 3, 1)) ∧ (decode prog_10_method_70_code 211 = .ok (.lload 5, 2)) ∧ (decode prog_10_method_70_code 213 = .ok (.invokestatic 288, 3)) ∧ (decode prog_10_method_70_code 216 = .ok (.lstore 7, 2)) ∧ (decode prog_10_method_70_code 218 = .ok (.iload_n 2, 1)) ∧ (decode prog_10_method_70_code 219 = .ok (.ifCond .ne 11, 3)) ∧ (decode prog_10_method_70_code 222 = .ok (.lload 5, 2)) ∧ (decode prog_10_method_70_code 224 = .ok (.lload 7, 2)) ∧ (decode prog_10_method_70_code 226 = .ok (.ldiv, 1)) := by
  have h : List.drop 179 prog_10_method_70_code.data.toList = 0x1b :: _ := rfl
  refine ⟨zq_k_n 27 h rfl (zq_o_27 _), ?_⟩
  replace h := zq_nx1 (q := 180) h rfl
  refine ⟨zq_k_u2 182 (fun z => .invokevirtual z) 204 h rfl (zq_o_182 _) (by decide +kernel), ?_⟩
  replace h := zq_nx3 (q := 183) h rfl
  refine ⟨zq_k_u1 54 (fun z => .istore z) 7 h rfl (zq_o_54 _) (by decide +kernel), ?_⟩
  replace h := zq_nx2 (q := 185) h rfl
  refine ⟨zq_k_u1 21 (fun z => .iload z) 7 h rfl (zq_o_21 _) (by decide +kernel), ?_⟩
  replace h := zq_nx2 (q := 187) h rfl
  refine ⟨zq_k_s1 16 (fun z => .bipush z) 16 h rfl (zq_o_16 _) (by decide +kernel), ?_⟩
  replace h := zq_nx2 (q := 189) h rfl
  refine ⟨zq_k_s2 162 (fun z => .if_icmp .ge z) 21 h rfl (zq_o_162 _) (by decide +kernel), ?_⟩
  replace h := zq_nx3 (q := 192) h rfl
  refine ⟨zq_k_u1 22 (fun z => .lload z) 5 h rfl (zq_o_22 _) (by decide +kernel), ?_⟩
  replace h := zq_nx2 (q := 194) h rfl
  refine ⟨zq_k_n 42 h rfl (zq_o_42 _), ?_⟩
  replace h := zq_nx1 (q := 195) h rfl
  refine ⟨zq_k_u2 180 (fun z => .getfield z) 68 h rfl (zq_o_180 _) (by decide +kernel), ?_⟩
  replace h := zq_nx3 (q := 198) h rfl
  refine ⟨zq_k_u1 21 (fun z => .iload z) 7 h rfl (zq_o_21 _) (by decide +kernel), ?_⟩
  replace h := zq_nx2 (q := 200) h rfl
  refine ⟨zq_k_n 47 h rfl (zq_o_47 _), ?_⟩
  replace h := zq_nx1 (q := 201) h rfl
  refine ⟨zq_k_n 97 h rfl (zq_o_97 _), ?_⟩
  replace h := zq_nx1 (q := 202) h rfl
  refine ⟨zq_k_u1 55 (fun z => .lstore z) 5 h rfl (zq_o_55 _) (by decide +kernel), ?_⟩
  replace h := zq_nx2 (q := 204) h rfl
  refine ⟨zq_k_iinc 7 1 h rfl (zq_o_132 _) (by decide +kernel) (by decide +kernel), ?_⟩
  replace h := zq_nx3 (q := 207) h rfl
  refine ⟨zq_k_s2 167 (fun z => .goto z) (-22) h rfl (zq_o_167 _) (by decide +kernel), ?_⟩
  replace h := zq_nx3 (q := 210) h rfl
  refine ⟨zq_k_n 33 h rfl (zq_o_33 _), ?_⟩
  replace h := zq_nx1 (q := 211) h rfl
  refine ⟨zq_k_u1 22 (fun z => .lload z) 5 h rfl (zq_o_22 _) (by decide +kernel), ?_⟩
  replace h := zq_nx2 (q := 213) h rfl
  refine ⟨zq_k_u2 184 (fun z => .invokestatic z) 288 h rfl (zq_o_184 _) (by decide +kernel), ?_⟩
  replace h := zq_nx3 (q := 216) h rfl
  refine ⟨zq_k_u1 55 (fun z => .lstore z) 7 h rfl (zq_o_55 _) (by decide +kernel), ?_⟩
  replace h := zq_nx2 (q := 218) h rfl
  refine ⟨zq_k_n 28 h rfl (zq_o_28 _), ?_⟩
  replace h := zq_nx1 (q := 219) h rfl
  refine ⟨zq_k_s2 154 (fun z => .ifCond .ne z) 11 h rfl (zq_o_154 _) (by decide +kernel), ?_⟩
  replace h := zq_nx3 (q := 222) h rfl
  refine ⟨zq_k_u1 22 (fun z => .lload z) 5 h rfl (zq_o_22 _) (by decide +kernel), ?_⟩
  replace h := zq_nx2 (q := 224) h rfl
  refine ⟨zq_k_u1 22 (fun z => .lload z) 7 h rfl (zq_o_22 _) (by decide +kernel), ?_⟩
  replace h := zq_nx2 (q := 226) h rfl
  exact zq_k_n 109 h rfl (zq_o_109 _)
theorem d_M_luck_179 : decode prog_10_method_70_code 179 = .ok (.iload_n 1, 1) := dd_M_luck_179.1
theorem d_M_luck_180 : decode prog_10_method_70_code 180 = .ok (.invokevirtual 204, 3) := dd_M_luck_179.2.1
theorem d_M_luck_183 : decode prog_10_method_70_code 183 = .ok (.istore 7, 2) := dd_M_luck_179.2.2.1
theorem d_M_luck_185 : decode prog_10_method_70_code 185 = .ok (.iload 7, 2) := dd_M_luck_179.2.2.2.1
theorem d_M_luck_187 : decode prog_10_method_70_code 187 = .ok (.bipush 16, 2) := dd_M_luck_179.2.2.2.2.1
theorem d_M_luck_189 : decode prog_10_method_70_code 189 = .ok (.if_icmp .ge 21, 3) := dd_M_luck_179.2.2.2.2.2.1
theorem d_M_luck_192 : decode prog_10_method_70_code 192 = .ok (.lload 5, 2) := dd_M_luck_179.2.2.2.2.2.2.1
theorem d_M_luck_194 : decode prog_10_method_70_code 194 = .ok (.aload_n 0, 1) := dd_M_luck_179.2.2.2.2.2.2.2.1
theorem d_M_luck_195 : decode prog_10_method_70_code 195 = .ok (.getfield 68, 3) := dd_M_luck_179.2.2.2.2.2.2.2.2.1
theorem d_M_luck_198 : decode prog_10_method_70_code 198 = .ok (.iload 7, 2) := dd_M_luck_179.2.2.2.2.2.2.2.2.2.1
theorem d_M_luck_200 : decode prog_10_method_70_code 200 = .ok (.laload, 1) := dd_M_luck_179.2.2.2.2.2.2.2.2.2.2.1
theorem d_M_luck_201 : decode prog_10_method_70_code 201 = .ok (.ladd, 1) := dd_M_luck_179.2.2.2.2.2.2.2.2.2.2.2.1
theorem d_M_luck_202 : decode prog_10_method_70_code 202 = .ok (.lstore 5, 2) := dd_M_luck_179.2.2.2.2.2.2.2.2.2.2.2.2.1
theorem d_M_luck_204 : decode prog_10_method_70_code 204 = .ok (.iinc 7 1, 3) := dd_M_luck_179.2.2.2.2.2.2.2.2.2.2.2.2.2.1
theorem d_M_luck_207 : decode prog_10_method_70_code 207 = .ok (.goto (-22), 3) := dd_M_luck_179.2.2.2.2.2.2.2.2.2.2.2.2.2.2.1
theorem d_M_luck_210 : decode prog_10_method_70_code 210 = .ok (.lload_n 3, 1) := dd_M_luck_179.2.2.2.2.2.2.2.2.2.2.2.2.2.2.2.1
theorem d_M_luck_211 : decode prog_10_method_70_code 211 = .ok (.lload 5, 2) := dd_M_luck_179.2.2.2.2.2.2.2.2.2.2.2.2.2.2.2.2.1
theorem d_M_luck_213 : decode prog_10_method_70_code 213 = .ok (.invokestatic 288, 3) := dd_M_luck_179.2.2.2.2.2.2.2.2.2.2.2.2.2.2.2.2.2.1
theorem d_M_luck_216 : decode prog_10_method_70_code 216 = .ok (.lstore 7, 2) := dd_M_luck_179.2.2.2.2.2.2.2.2.2.2.2.2.2.2.2.2.2.2.1
theorem d_M_luck_218 : decode prog_10_method_70_code 218 = .ok (.iload_n 2, 1) := dd_M_luck_179.2.2.2.2.2.2.2.2.2.2.2.2.2.2.2.2.2.2.2.1
theorem d_M_luck_219 : decode prog_10_method_70_code 219 = .ok (.ifCond .ne 11, 3) := dd_M_luck_179.2.2.2.2.2.2.2.2.2.2.2.2.2.2.2.2.2.2.2.2.1
theorem d_M_luck_222 : decode prog_10_method_70_code 222 = .ok (.lload 5, 2) := dd_M_luck_179.2.2.2.2.2.2.2.2.2.2.2.2.2.2.2.2.2.2.2.2.2.1
theorem d_M_luck_224 : decode prog_10_method_70_code 224 = .ok (.lload 7, 2) := dd_M_luck_179.2.2.2.2.2.2.2.2.2.2.2.2.2.2.2.2.2.2.2.2.2.2.1
theorem d_M_luck_226 : decode prog_10_method_70_code 226 = .ok (.ldiv, 1) := dd_M_luck_179.2.2.2.2.2.2.2.2.2.2.2.2.2.2.2.2.2.2.2.2.2.2.2
set_option maxRecDepth 100000 in
theorem dd_M_luck_227 : (decode prog_10_method_70_code 227 = .ok (.goto 7, 3)) ∧ (decode prog_10_method_70_code 230 = .ok (.lload_n 3, 1)) ∧ (decode prog_10_method_70_code 231 = .ok (.lload 7, 2)) ∧ (decode prog_10_method_70_code 233 = .ok (.ldiv, 1)) ∧ (decode prog_10_method_70_code 234 = .ok (.lreturn, 1)) := by
  have h : List.drop 227 prog_10_method_70_code.data.toList = 0xa7 :: _ := rfl
  refine ⟨zq_k_s2 167 (fun z => .goto z) 7 h rfl (zq_o_167 _) (by decide +kernel), ?_⟩
  replace h := zq_nx3 (q := 230) h rfl
  refine ⟨zq_k_n 33 h rfl (zq_o_33 _), ?_⟩
  replace h := zq_nx1 (q := 231) h rfl
  refine ⟨zq_k_u1 22 (fun z => .lload z) 7 h rfl (zq_o_22 _) (by decide +kernel), ?_⟩
  replace h := zq_nx2 (q := 233) h rfl
  refine ⟨zq_k_n 109 h rfl (zq_o_109 _), ?_⟩
  replace h := zq_nx1 (q := 234) h rfl
  exact zq_k_n 173 h rfl (zq_o_173 _)
theorem d_M_luck_227 : decode prog_10_method_70_code 227 = .ok (.goto 7, 3) := dd_M_luck_227.1
theorem d_M_luck_230 : decode prog_10_method_70_code 230 = .ok (.lload_n 3, 1) := dd_M_luck_227.2.1
theorem d_M_luck_231 : decode prog_10_method_70_code 231 = .ok (.lload 7, 2) := dd_M_luck_227.2.2.1
theorem d_M_luck_233 : decode prog_10_method_70_code 233 = .ok (.ldiv, 1) := dd_M_luck_227.2.2.2.1
theorem d_M_luck_234 : decode prog_10_method_70_code 234 = .ok (.lreturn, 1) := dd_M_luck_227.2.2.2.2
def f_M_luck_185b (rec185 : Nat → Int32 → Int64 → Int64 → Int32 → mH → Option (Int64 × mH)) (b0 : Nat) (b2 : Int32) (b3 : Int64) (b5 : Int64) (b7 : Int32) (h : mH) : Option (Int64 × mH) :=
  if (16 : Int32) ≤ b7 then
    bd2 (f_M_common b3 b5 h) fun x55 h53 =>
    if b2 = 0 then
      if x55 = 0 then none else
      some (b5 / x55, h53)
    else
      if x55 = 0 then none else
      some (b3 / x55, h53)
  else
    bd1 (gR h b0 8 32) fun x59 =>
    bd1 (aL h x59 b7) fun x61 =>
    rec185 b0 b2 b3 (b5 + x61) (b7 + (1 : Int32)) h
set_option maxRecDepth 20000 in
theorem t_M_luck_185b {sc : Nat × (Nat → Int32)} (rec185 : Nat → Int32 → Int64 → Int64 → Int32 → mH → Option (Int64 × mH)) (hrec185 : ∀ (b0 : Nat) (b2 : Int32) (b3 : Int64) (b5 : Int64) (b7 : Int32) (h : mH) (r : Int64) (h' : mH), rec185 b0 b2 b3 b5 b7 h = some (r, h') → G sc y_M_luck prog_10_method_70_code 10 (some .long) 4 90 185 [(0, .ref b0), (2, .int b2), (3, .long b3), (5, .long b5), (7, .int b7)] [] h (some (.long r)) h') (b0 : Nat) (b2 : Int32) (b3 : Int64) (b5 : Int64) (b7 : Int32) (h : mH) (r : Int64) (h' : mH) (hf : f_M_luck_185b rec185 b0 b2 b3 b5 b7 h = some (r, h')) : G sc y_M_luck prog_10_method_70_code 10 (some .long) 4 90 185 [(0, .ref b0), (2, .int b2), (3, .long b3), (5, .long b5), (7, .int b7)] [] h (some (.long r)) h' := by
  unfold f_M_luck_185b at hf
  refine g_iload (pc := 185) 4 d_M_luck_185 rfl ?_
  refine g_bipush (pc := 187) (16 : Int32) d_M_luck_187 (by decide) ?_
  refine g_icmpge (pc := 189) 210 d_M_luck_189 (by decide) (fun c63 => ?_) (fun c63 => ?_)
  · replace hf := (if_pos c63).symm.trans hf
    refine g_lload_n (pc := 210) 2 d_M_luck_210 rfl rfl ?_
    refine g_lload (pc := 211) 3 d_M_luck_211 rfl ?_
    obtain ⟨x55, h53, e54, hf⟩ := bd2_e hf
    refine g_callS (pc := 213) [.long b3, .long b5] (site_of si_M_common (by decide) (by decide)) wd_1325 wd_1326 d_M_luck_213 (Nat.le_of_ble_eq_true rfl) (fun z => absurd z (by decide)) (fun z => absurd z (by decide)) (fun z => absurd z (by decide)) (c_M_common e54) rfl ?_
    refine g_st [.long x55] rfl ?_
    refine g_lstore (pc := 216) [(7, .long x55), (0, .ref b0), (2, .int b2), (3, .long b3), (5, .long b5)] d_M_luck_216 (Nat.le_of_ble_eq_true rfl) rfl ?_
    refine g_iload_n (pc := 218) 2 d_M_luck_218 rfl rfl ?_
    refine g_ifne (pc := 219) 230 d_M_luck_219 (by decide) (fun c58 => ?_) (fun c58 => ?_)
    · replace hf := (if_neg c58).symm.trans hf
      refine g_lload_n (pc := 230) 3 d_M_luck_230 rfl rfl ?_
      refine g_lload (pc := 231) 0 d_M_luck_231 rfl ?_
      have c56 : ¬ x55 = 0 := fun z => absurd ((if_pos z).symm.trans hf) (by simp)
      replace hf := (if_neg c56).symm.trans hf
      refine g_ldiv (pc := 233) d_M_luck_233 c56 ?_
      obtain ⟨rfl, rfl⟩ := ret2 hf
      exact g_lret (pc := 234) rfl d_M_luck_234
    · replace hf := (if_pos c58).symm.trans hf
      refine g_lload (pc := 222) 4 d_M_luck_222 rfl ?_
      refine g_lload (pc := 224) 0 d_M_luck_224 rfl ?_
      have c57 : ¬ x55 = 0 := fun z => absurd ((if_pos z).symm.trans hf) (by simp)
      replace hf := (if_neg c57).symm.trans hf
      refine g_ldiv (pc := 226) d_M_luck_226 c57 ?_
      refine g_goto (pc := 227) 234 d_M_luck_227 (by decide) ?_
      obtain ⟨rfl, rfl⟩ := ret2 hf
      exact g_lret (pc := 234) rfl d_M_luck_234
  · replace hf := (if_neg c63).symm.trans hf
    refine g_lload (pc := 192) 3 d_M_luck_192 rfl ?_
    refine g_aload_n (pc := 194) 0 d_M_luck_194 rfl rfl ?_
    obtain ⟨x59, e60, hf⟩ := bd1_e hf
    refine g_get (pc := 195) (ci := 8) (kk := 32) d_M_luck_195 rfl in_M (by decide) wd_970 (gR_spec e60) ?_
    refine g_iload (pc := 198) 4 d_M_luck_198 rfl ?_
    obtain ⟨x61, e62, hf⟩ := bd1_e hf
    refine g_lald (pc := 200) d_M_luck_200 e62 ?_
    refine g_ladd (pc := 201) d_M_luck_201 ?_
    refine g_lstore (pc := 202) [(5, .long (b5 + x61)), (0, .ref b0), (2, .int b2), (3, .long b3), (7, .int b7)] d_M_luck_202 (Nat.le_of_ble_eq_true rfl) rfl ?_
    refine g_iinc (pc := 204) 4 (b7 + (1 : Int32)) [(7, .int (b7 + (1 : Int32))), (5, .long (b5 + x61)), (0, .ref b0), (2, .int b2), (3, .long b3)] d_M_luck_204 rfl rfl (Nat.le_of_ble_eq_true rfl) rfl ?_
    refine g_goto (pc := 207) 185 d_M_luck_207 (by decide) ?_
    refine g_lv [2, 3, 4, 1, 0] rfl ?_
    exact hrec185 _ _ _ _ _ _ _ _  hf
def f_M_luck_185  : Nat → Nat → Int32 → Int64 → Int64 → Int32 → mH → Option (Int64 × mH)
  | 0 => fun _ _ _ _ _ _ => none
  | n + 1 => f_M_luck_185b  (f_M_luck_185  n)
theorem t_M_luck_185 {sc : Nat × (Nat → Int32)}  : ∀ (n : Nat) (b0 : Nat) (b2 : Int32) (b3 : Int64) (b5 : Int64) (b7 : Int32) (h : mH) (r : Int64) (h' : mH) (hf : f_M_luck_185  n b0 b2 b3 b5 b7 h = some (r, h')), G sc y_M_luck prog_10_method_70_code 10 (some .long) 4 90 185 [(0, .ref b0), (2, .int b2), (3, .long b3), (5, .long b5), (7, .int b7)] [] h (some (.long r)) h'
  | 0, _, _, _, _, _, _, _, _, hf => by cases hf
  | n + 1, _, _, _, _, _, _, _, _, hf => t_M_luck_185b  (f_M_luck_185  n) (t_M_luck_185  n) _ _ _ _ _ _ _ _ hf
def f_M_luck_111 (rec60 : Nat → Int32 → Int32 → Int64 → Int32 → mH → Option (Int64 × mH)) (rec72 : Nat → Int32 → Int32 → Int64 → Int32 → Int32 → mH → Option (Int64 × mH)) (rec88 : Nat → Int32 → Int32 → Int64 → Int32 → Int32 → Int32 → mH → Option (Int64 × mH)) (b0 : Nat) (b1 : Int32) (b2 : Int32) (b3 : Int64) (b5 : Int32) (b6 : Int32) (b7 : Int32) (s0 : Int64) (h : mH) : Option (Int64 × mH) :=
  bd1 (gR h b0 8 32) fun x37 =>
  bd1 (gR h b0 8 32) fun x39 =>
  bd1 (aL h x39 b7) fun x41 =>
  bd1 (gR h b0 8 8) fun x43 =>
  bd1 (aI h 0 x43 b5) fun x45 =>
  bd1 (gR h b0 8 8) fun x47 =>
  bd1 (aI h 0 x47 b5) fun x49 =>
  bd1 (sL h x37 b7 ((x41 * (((10 : Int32) - x45).toInt64)) + (s0 * x49.toInt64))) fun h51 =>
  rec88 b0 b1 b2 b3 b5 b6 (b7 + ((-1) : Int32)) h51
set_option maxRecDepth 20000 in
theorem t_M_luck_111 {sc : Nat × (Nat → Int32)} (rec60 : Nat → Int32 → Int32 → Int64 → Int32 → mH → Option (Int64 × mH)) (hrec60 : ∀ (b0 : Nat) (b1 : Int32) (b2 : Int32) (b3 : Int64) (b5 : Int32) (h : mH) (r : Int64) (h' : mH), rec60 b0 b1 b2 b3 b5 h = some (r, h') → G sc y_M_luck prog_10_method_70_code 10 (some .long) 4 90 60 [(0, .ref b0), (1, .int b1), (2, .int b2), (3, .long b3), (5, .int b5)] [] h (some (.long r)) h') (rec72 : Nat → Int32 → Int32 → Int64 → Int32 → Int32 → mH → Option (Int64 × mH)) (hrec72 : ∀ (b0 : Nat) (b1 : Int32) (b2 : Int32) (b3 : Int64) (b5 : Int32) (b6 : Int32) (h : mH) (r : Int64) (h' : mH), rec72 b0 b1 b2 b3 b5 b6 h = some (r, h') → G sc y_M_luck prog_10_method_70_code 10 (some .long) 4 90 72 [(0, .ref b0), (1, .int b1), (2, .int b2), (3, .long b3), (5, .int b5), (6, .int b6)] [] h (some (.long r)) h') (rec88 : Nat → Int32 → Int32 → Int64 → Int32 → Int32 → Int32 → mH → Option (Int64 × mH)) (hrec88 : ∀ (b0 : Nat) (b1 : Int32) (b2 : Int32) (b3 : Int64) (b5 : Int32) (b6 : Int32) (b7 : Int32) (h : mH) (r : Int64) (h' : mH), rec88 b0 b1 b2 b3 b5 b6 b7 h = some (r, h') → G sc y_M_luck prog_10_method_70_code 10 (some .long) 4 90 88 [(0, .ref b0), (1, .int b1), (2, .int b2), (3, .long b3), (5, .int b5), (6, .int b6), (7, .int b7)] [] h (some (.long r)) h') (b0 : Nat) (b1 : Int32) (b2 : Int32) (b3 : Int64) (b5 : Int32) (b6 : Int32) (b7 : Int32) (s0 : Int64) (h : mH) (r : Int64) (h' : mH) (hf : f_M_luck_111 rec60 rec72 rec88 b0 b1 b2 b3 b5 b6 b7 s0 h = some (r, h')) : G sc y_M_luck prog_10_method_70_code 10 (some .long) 4 90 111 [(0, .ref b0), (1, .int b1), (2, .int b2), (3, .long b3), (5, .int b5), (6, .int b6), (7, .int b7)] [.long s0] h (some (.long r)) h' := by
  unfold f_M_luck_111 at hf
  refine g_lstore (pc := 111) [(8, .long s0), (0, .ref b0), (1, .int b1), (2, .int b2), (3, .long b3), (5, .int b5), (6, .int b6), (7, .int b7)] d_M_luck_111 (Nat.le_of_ble_eq_true rfl) rfl ?_
  refine g_aload_n (pc := 113) 1 d_M_luck_113 rfl rfl ?_
  obtain ⟨x37, e38, hf⟩ := bd1_e hf
  refine g_get (pc := 114) (ci := 8) (kk := 32) d_M_luck_114 rfl in_M (by decide) wd_970 (gR_spec e38) ?_
  refine g_iload (pc := 117) 7 d_M_luck_117 rfl ?_
  refine g_aload_n (pc := 119) 1 d_M_luck_119 rfl rfl ?_
  obtain ⟨x39, e40, hf⟩ := bd1_e hf
  refine g_get (pc := 120) (ci := 8) (kk := 32) d_M_luck_120 rfl in_M (by decide) wd_970 (gR_spec e40) ?_
  refine g_iload (pc := 123) 7 d_M_luck_123 rfl ?_
  obtain ⟨x41, e42, hf⟩ := bd1_e hf
  refine g_lald (pc := 125) d_M_luck_125 e42 ?_
  refine g_bipush (pc := 126) (10 : Int32) d_M_luck_126 (by decide) ?_
  refine g_aload_n (pc := 128) 1 d_M_luck_128 rfl rfl ?_
  obtain ⟨x43, e44, hf⟩ := bd1_e hf
  refine g_get (pc := 129) (ci := 8) (kk := 8) d_M_luck_129 rfl in_M (by decide) wd_946 (gR_spec e44) ?_
  refine g_iload (pc := 132) 5 d_M_luck_132 rfl ?_
  obtain ⟨x45, e46, hf⟩ := bd1_e hf
  refine g_iald (pc := 134) d_M_luck_134 e46 ?_
  refine g_isub (pc := 135) d_M_luck_135 ?_
  refine g_i2l (pc := 136) d_M_luck_136 ?_
  refine g_lmul (pc := 137) d_M_luck_137 ?_
  refine g_lload (pc := 138) 0 d_M_luck_138 rfl ?_
  refine g_aload_n (pc := 140) 1 d_M_luck_140 rfl rfl ?_
  obtain ⟨x47, e48, hf⟩ := bd1_e hf
  refine g_get (pc := 141) (ci := 8) (kk := 8) d_M_luck_141 rfl in_M (by decide) wd_946 (gR_spec e48) ?_
  refine g_iload (pc := 144) 5 d_M_luck_144 rfl ?_
  obtain ⟨x49, e50, hf⟩ := bd1_e hf
  refine g_iald (pc := 146) d_M_luck_146 e50 ?_
  refine g_i2l (pc := 147) d_M_luck_147 ?_
  refine g_lmul (pc := 148) d_M_luck_148 ?_
  refine g_ladd (pc := 149) d_M_luck_149 ?_
  obtain ⟨h51, e52, hf⟩ := bd1_e hf
  refine g_last (pc := 150) d_M_luck_150 e52 ?_
  refine g_iinc (pc := 151) 7 (b7 + ((-1) : Int32)) [(7, .int (b7 + ((-1) : Int32))), (8, .long s0), (0, .ref b0), (1, .int b1), (2, .int b2), (3, .long b3), (5, .int b5), (6, .int b6)] d_M_luck_151 rfl rfl (Nat.le_of_ble_eq_true rfl) rfl ?_
  refine g_goto (pc := 154) 88 d_M_luck_154 (by decide) ?_
  refine g_lv [2, 3, 4, 5, 6, 7, 0] rfl ?_
  exact hrec88 _ _ _ _ _ _ _ _ _ _  hf
def f_M_luck_88b (rec60 : Nat → Int32 → Int32 → Int64 → Int32 → mH → Option (Int64 × mH)) (rec72 : Nat → Int32 → Int32 → Int64 → Int32 → Int32 → mH → Option (Int64 × mH)) (rec88 : Nat → Int32 → Int32 → Int64 → Int32 → Int32 → Int32 → mH → Option (Int64 × mH)) (b0 : Nat) (b1 : Int32) (b2 : Int32) (b3 : Int64) (b5 : Int32) (b6 : Int32) (b7 : Int32) (h : mH) : Option (Int64 × mH) :=
  if b7 < 0 then
    rec72 b0 b1 b2 (b3 * (10 : Int64)) b5 (b6 + (1 : Int32)) h
  else
    if b7 = 0 then
      f_M_luck_111 rec60 rec72 rec88 b0 b1 b2 b3 b5 b6 b7 (0 : Int64) h
    else
      bd1 (gR h b0 8 32) fun x31 =>
      bd1 (aL h x31 (b7 - (1 : Int32))) fun x33 =>
      f_M_luck_111 rec60 rec72 rec88 b0 b1 b2 b3 b5 b6 b7 x33 h
set_option maxRecDepth 20000 in
theorem t_M_luck_88b {sc : Nat × (Nat → Int32)} (rec60 : Nat → Int32 → Int32 → Int64 → Int32 → mH → Option (Int64 × mH)) (hrec60 : ∀ (b0 : Nat) (b1 : Int32) (b2 : Int32) (b3 : Int64) (b5 : Int32) (h : mH) (r : Int64) (h' : mH), rec60 b0 b1 b2 b3 b5 h = some (r, h') → G sc y_M_luck prog_10_method_70_code 10 (some .long) 4 90 60 [(0, .ref b0), (1, .int b1), (2, .int b2), (3, .long b3), (5, .int b5)] [] h (some (.long r)) h') (rec72 : Nat → Int32 → Int32 → Int64 → Int32 → Int32 → mH → Option (Int64 × mH)) (hrec72 : ∀ (b0 : Nat) (b1 : Int32) (b2 : Int32) (b3 : Int64) (b5 : Int32) (b6 : Int32) (h : mH) (r : Int64) (h' : mH), rec72 b0 b1 b2 b3 b5 b6 h = some (r, h') → G sc y_M_luck prog_10_method_70_code 10 (some .long) 4 90 72 [(0, .ref b0), (1, .int b1), (2, .int b2), (3, .long b3), (5, .int b5), (6, .int b6)] [] h (some (.long r)) h') (rec88 : Nat → Int32 → Int32 → Int64 → Int32 → Int32 → Int32 → mH → Option (Int64 × mH)) (hrec88 : ∀ (b0 : Nat) (b1 : Int32) (b2 : Int32) (b3 : Int64) (b5 : Int32) (b6 : Int32) (b7 : Int32) (h : mH) (r : Int64) (h' : mH), rec88 b0 b1 b2 b3 b5 b6 b7 h = some (r, h') → G sc y_M_luck prog_10_method_70_code 10 (some .long) 4 90 88 [(0, .ref b0), (1, .int b1), (2, .int b2), (3, .long b3), (5, .int b5), (6, .int b6), (7, .int b7)] [] h (some (.long r)) h') (b0 : Nat) (b1 : Int32) (b2 : Int32) (b3 : Int64) (b5 : Int32) (b6 : Int32) (b7 : Int32) (h : mH) (r : Int64) (h' : mH) (hf : f_M_luck_88b rec60 rec72 rec88 b0 b1 b2 b3 b5 b6 b7 h = some (r, h')) : G sc y_M_luck prog_10_method_70_code 10 (some .long) 4 90 88 [(0, .ref b0), (1, .int b1), (2, .int b2), (3, .long b3), (5, .int b5), (6, .int b6), (7, .int b7)] [] h (some (.long r)) h' := by
  unfold f_M_luck_88b at hf
  refine g_iload (pc := 88) 6 d_M_luck_88 rfl ?_
  refine g_iflt (pc := 90) 157 d_M_luck_90 (by decide) (fun c36 => ?_) (fun c36 => ?_)
  · replace hf := (if_pos c36).symm.trans hf
    refine g_lload_n (pc := 157) 3 d_M_luck_157 rfl rfl ?_
    refine g_ldc2 (pc := 158) (10 : Int64) d_M_luck_158 wd_1324 ?_
    refine g_lmul (pc := 161) d_M_luck_161 ?_
    refine g_lstore_n (pc := 162) [(3, .long (b3 * (10 : Int64))), (0, .ref b0), (1, .int b1), (2, .int b2), (5, .int b5), (6, .int b6), (7, .int b7)] d_M_luck_162 rfl (Nat.le_of_ble_eq_true rfl) rfl ?_
    refine g_iinc (pc := 163) 5 (b6 + (1 : Int32)) [(6, .int (b6 + (1 : Int32))), (3, .long (b3 * (10 : Int64))), (0, .ref b0), (1, .int b1), (2, .int b2), (5, .int b5), (7, .int b7)] d_M_luck_163 rfl rfl (Nat.le_of_ble_eq_true rfl) rfl ?_
    refine g_goto (pc := 166) 72 d_M_luck_166 (by decide) ?_
    refine g_lv [2, 3, 4, 1, 5, 0] rfl ?_
    exact hrec72 _ _ _ _ _ _ _ _ _  hf
  · replace hf := (if_neg c36).symm.trans hf
    refine g_iload (pc := 93) 6 d_M_luck_93 rfl ?_
    refine g_ifne (pc := 95) 102 d_M_luck_95 (by decide) (fun c35 => ?_) (fun c35 => ?_)
    · replace hf := (if_neg c35).symm.trans hf
      refine g_aload_n (pc := 102) 0 d_M_luck_102 rfl rfl ?_
      obtain ⟨x31, e32, hf⟩ := bd1_e hf
      refine g_get (pc := 103) (ci := 8) (kk := 32) d_M_luck_103 rfl in_M (by decide) wd_970 (gR_spec e32) ?_
      refine g_iload (pc := 106) 6 d_M_luck_106 rfl ?_
      refine g_iconst (pc := 108) (1 : Int32) d_M_luck_108 (by decide) ?_
      refine g_isub (pc := 109) d_M_luck_109 ?_
      obtain ⟨x33, e34, hf⟩ := bd1_e hf
      refine g_lald (pc := 110) d_M_luck_110 e34 ?_
      refine g_lv [0, 1, 2, 3, 4, 5, 6] rfl ?_
      exact t_M_luck_111 rec60 hrec60 rec72 hrec72 rec88 hrec88 _ _ _ _ _ _ _ _ _ _ _  hf
    · replace hf := (if_pos c35).symm.trans hf
      refine g_lconst (pc := 98) (0 : Int64) d_M_luck_98 (by decide) ?_
      refine g_goto (pc := 99) 111 d_M_luck_99 (by decide) ?_
      refine g_lv [0, 1, 2, 3, 4, 5, 6] rfl ?_
      exact t_M_luck_111 rec60 hrec60 rec72 hrec72 rec88 hrec88 _ _ _ _ _ _ _ _ _ _ _  hf
def f_M_luck_88 (rec60 : Nat → Int32 → Int32 → Int64 → Int32 → mH → Option (Int64 × mH)) (rec72 : Nat → Int32 → Int32 → Int64 → Int32 → Int32 → mH → Option (Int64 × mH)) : Nat → Nat → Int32 → Int32 → Int64 → Int32 → Int32 → Int32 → mH → Option (Int64 × mH)
  | 0 => fun _ _ _ _ _ _ _ _ => none
  | n + 1 => f_M_luck_88b rec60 rec72 (f_M_luck_88 rec60 rec72 n)
theorem t_M_luck_88 {sc : Nat × (Nat → Int32)} (rec60 : Nat → Int32 → Int32 → Int64 → Int32 → mH → Option (Int64 × mH)) (hrec60 : ∀ (b0 : Nat) (b1 : Int32) (b2 : Int32) (b3 : Int64) (b5 : Int32) (h : mH) (r : Int64) (h' : mH), rec60 b0 b1 b2 b3 b5 h = some (r, h') → G sc y_M_luck prog_10_method_70_code 10 (some .long) 4 90 60 [(0, .ref b0), (1, .int b1), (2, .int b2), (3, .long b3), (5, .int b5)] [] h (some (.long r)) h') (rec72 : Nat → Int32 → Int32 → Int64 → Int32 → Int32 → mH → Option (Int64 × mH)) (hrec72 : ∀ (b0 : Nat) (b1 : Int32) (b2 : Int32) (b3 : Int64) (b5 : Int32) (b6 : Int32) (h : mH) (r : Int64) (h' : mH), rec72 b0 b1 b2 b3 b5 b6 h = some (r, h') → G sc y_M_luck prog_10_method_70_code 10 (some .long) 4 90 72 [(0, .ref b0), (1, .int b1), (2, .int b2), (3, .long b3), (5, .int b5), (6, .int b6)] [] h (some (.long r)) h') : ∀ (n : Nat) (b0 : Nat) (b1 : Int32) (b2 : Int32) (b3 : Int64) (b5 : Int32) (b6 : Int32) (b7 : Int32) (h : mH) (r : Int64) (h' : mH) (hf : f_M_luck_88 rec60 rec72 n b0 b1 b2 b3 b5 b6 b7 h = some (r, h')), G sc y_M_luck prog_10_method_70_code 10 (some .long) 4 90 88 [(0, .ref b0), (1, .int b1), (2, .int b2), (3, .long b3), (5, .int b5), (6, .int b6), (7, .int b7)] [] h (some (.long r)) h'
  | 0, _, _, _, _, _, _, _, _, _, _, hf => by cases hf
  | n + 1, _, _, _, _, _, _, _, _, _, _, hf => t_M_luck_88b rec60 hrec60 rec72 hrec72 (f_M_luck_88 rec60 rec72 n) (t_M_luck_88 rec60 hrec60 rec72 hrec72 n) _ _ _ _ _ _ _ _ _ _ hf
def f_M_luck_72b (rec60 : Nat → Int32 → Int32 → Int64 → Int32 → mH → Option (Int64 × mH)) (rec72 : Nat → Int32 → Int32 → Int64 → Int32 → Int32 → mH → Option (Int64 × mH)) (b0 : Nat) (b1 : Int32) (b2 : Int32) (b3 : Int64) (b5 : Int32) (b6 : Int32) (h : mH) : Option (Int64 × mH) :=
  bd1 (kC h b0 8) fun _ =>
  bd2 (f_M_triesOf b0 b5 b1 h) fun x29 h27 =>
  if x29 ≤ b6 then
    rec60 b0 b1 b2 b3 (b5 + (1 : Int32)) h27
  else
    f_M_luck_88 rec60 rec72 FU b0 b1 b2 b3 b5 b6 (15 : Int32) h27
set_option maxRecDepth 20000 in
theorem t_M_luck_72b {sc : Nat × (Nat → Int32)} (rec60 : Nat → Int32 → Int32 → Int64 → Int32 → mH → Option (Int64 × mH)) (hrec60 : ∀ (b0 : Nat) (b1 : Int32) (b2 : Int32) (b3 : Int64) (b5 : Int32) (h : mH) (r : Int64) (h' : mH), rec60 b0 b1 b2 b3 b5 h = some (r, h') → G sc y_M_luck prog_10_method_70_code 10 (some .long) 4 90 60 [(0, .ref b0), (1, .int b1), (2, .int b2), (3, .long b3), (5, .int b5)] [] h (some (.long r)) h') (rec72 : Nat → Int32 → Int32 → Int64 → Int32 → Int32 → mH → Option (Int64 × mH)) (hrec72 : ∀ (b0 : Nat) (b1 : Int32) (b2 : Int32) (b3 : Int64) (b5 : Int32) (b6 : Int32) (h : mH) (r : Int64) (h' : mH), rec72 b0 b1 b2 b3 b5 b6 h = some (r, h') → G sc y_M_luck prog_10_method_70_code 10 (some .long) 4 90 72 [(0, .ref b0), (1, .int b1), (2, .int b2), (3, .long b3), (5, .int b5), (6, .int b6)] [] h (some (.long r)) h') (b0 : Nat) (b1 : Int32) (b2 : Int32) (b3 : Int64) (b5 : Int32) (b6 : Int32) (h : mH) (r : Int64) (h' : mH) (hf : f_M_luck_72b rec60 rec72 b0 b1 b2 b3 b5 b6 h = some (r, h')) : G sc y_M_luck prog_10_method_70_code 10 (some .long) 4 90 72 [(0, .ref b0), (1, .int b1), (2, .int b2), (3, .long b3), (5, .int b5), (6, .int b6)] [] h (some (.long r)) h' := by
  unfold f_M_luck_72b at hf
  refine g_iload (pc := 72) 5 d_M_luck_72 rfl ?_
  refine g_aload_n (pc := 74) 0 d_M_luck_74 rfl rfl ?_
  refine g_iload (pc := 75) 4 d_M_luck_75 rfl ?_
  refine g_iload_n (pc := 77) 1 d_M_luck_77 rfl rfl ?_
  obtain ⟨u26, e25, hf⟩ := bd1_e hf
  obtain ⟨x29, h27, e28, hf⟩ := bd2_e hf
  refine g_callV (pc := 78) (ci := 8) [.int b5, .int b1] (site_of si_M_triesOf (by decide) (by decide)) wd_1298 wd_1300 wp_63 d_M_luck_78 rfl e25 (Nat.le_of_ble_eq_true rfl) (fun z => absurd z (by decide)) (fun z => absurd z (by decide)) (fun z => absurd z (by decide)) (c_M_triesOf e28) rfl ?_
  refine g_st [.int x29, .int b6] rfl ?_
  refine g_icmpge (pc := 81) 169 d_M_luck_81 (by decide) (fun c30 => ?_) (fun c30 => ?_)
  · replace hf := (if_pos c30).symm.trans hf
    refine g_iinc (pc := 169) 4 (b5 + (1 : Int32)) [(5, .int (b5 + (1 : Int32))), (0, .ref b0), (1, .int b1), (2, .int b2), (3, .long b3), (6, .int b6)] d_M_luck_169 rfl rfl (Nat.le_of_ble_eq_true rfl) rfl ?_
    refine g_goto (pc := 172) 60 d_M_luck_172 (by decide) ?_
    refine g_lv [1, 2, 3, 4, 0] rfl ?_
    exact hrec60 _ _ _ _ _ _ _ _  hf
  · replace hf := (if_neg c30).symm.trans hf
    refine g_bipush (pc := 84) (15 : Int32) d_M_luck_84 (by decide) ?_
    refine g_istore (pc := 86) [(7, .int (15 : Int32)), (0, .ref b0), (1, .int b1), (2, .int b2), (3, .long b3), (5, .int b5), (6, .int b6)] d_M_luck_86 (Nat.le_of_ble_eq_true rfl) rfl ?_
    refine g_lv [1, 2, 3, 4, 5, 6, 0] rfl ?_
    exact t_M_luck_88 rec60 hrec60 rec72 hrec72 FU _ _ _ _ _ _ _ _ _ _  hf
def f_M_luck_72 (rec60 : Nat → Int32 → Int32 → Int64 → Int32 → mH → Option (Int64 × mH)) : Nat → Nat → Int32 → Int32 → Int64 → Int32 → Int32 → mH → Option (Int64 × mH)
  | 0 => fun _ _ _ _ _ _ _ => none
  | n + 1 => f_M_luck_72b rec60 (f_M_luck_72 rec60 n)
theorem t_M_luck_72 {sc : Nat × (Nat → Int32)} (rec60 : Nat → Int32 → Int32 → Int64 → Int32 → mH → Option (Int64 × mH)) (hrec60 : ∀ (b0 : Nat) (b1 : Int32) (b2 : Int32) (b3 : Int64) (b5 : Int32) (h : mH) (r : Int64) (h' : mH), rec60 b0 b1 b2 b3 b5 h = some (r, h') → G sc y_M_luck prog_10_method_70_code 10 (some .long) 4 90 60 [(0, .ref b0), (1, .int b1), (2, .int b2), (3, .long b3), (5, .int b5)] [] h (some (.long r)) h') : ∀ (n : Nat) (b0 : Nat) (b1 : Int32) (b2 : Int32) (b3 : Int64) (b5 : Int32) (b6 : Int32) (h : mH) (r : Int64) (h' : mH) (hf : f_M_luck_72 rec60 n b0 b1 b2 b3 b5 b6 h = some (r, h')), G sc y_M_luck prog_10_method_70_code 10 (some .long) 4 90 72 [(0, .ref b0), (1, .int b1), (2, .int b2), (3, .long b3), (5, .int b5), (6, .int b6)] [] h (some (.long r)) h'
  | 0, _, _, _, _, _, _, _, _, _, hf => by cases hf
  | n + 1, _, _, _, _, _, _, _, _, _, hf => t_M_luck_72b rec60 hrec60 (f_M_luck_72 rec60 n) (t_M_luck_72 rec60 hrec60 n) _ _ _ _ _ _ _ _ _ hf
def f_M_luck_60b (rec60 : Nat → Int32 → Int32 → Int64 → Int32 → mH → Option (Int64 × mH)) (b0 : Nat) (b1 : Int32) (b2 : Int32) (b3 : Int64) (b5 : Int32) (h : mH) : Option (Int64 × mH) :=
  bd1 (gI h b0 8 3) fun x17 =>
  if x17 ≤ b5 then
    bd1 (kC h b0 8) fun _ =>
    bd2 (f_M_needOf b0 b1 h) fun x23 h21 =>
    f_M_luck_185  FU b0 b2 b3 (0 : Int64) x23 h21
  else
    f_M_luck_72 rec60 FU b0 b1 b2 b3 b5 (0 : Int32) h
set_option maxRecDepth 20000 in
theorem t_M_luck_60b {sc : Nat × (Nat → Int32)} (rec60 : Nat → Int32 → Int32 → Int64 → Int32 → mH → Option (Int64 × mH)) (hrec60 : ∀ (b0 : Nat) (b1 : Int32) (b2 : Int32) (b3 : Int64) (b5 : Int32) (h : mH) (r : Int64) (h' : mH), rec60 b0 b1 b2 b3 b5 h = some (r, h') → G sc y_M_luck prog_10_method_70_code 10 (some .long) 4 90 60 [(0, .ref b0), (1, .int b1), (2, .int b2), (3, .long b3), (5, .int b5)] [] h (some (.long r)) h') (b0 : Nat) (b1 : Int32) (b2 : Int32) (b3 : Int64) (b5 : Int32) (h : mH) (r : Int64) (h' : mH) (hf : f_M_luck_60b rec60 b0 b1 b2 b3 b5 h = some (r, h')) : G sc y_M_luck prog_10_method_70_code 10 (some .long) 4 90 60 [(0, .ref b0), (1, .int b1), (2, .int b2), (3, .long b3), (5, .int b5)] [] h (some (.long r)) h' := by
  unfold f_M_luck_60b at hf
  refine g_iload (pc := 60) 4 d_M_luck_60 rfl ?_
  refine g_aload_n (pc := 62) 0 d_M_luck_62 rfl rfl ?_
  obtain ⟨x17, e18, hf⟩ := bd1_e hf
  refine g_get (pc := 63) (ci := 8) (kk := 3) d_M_luck_63 rfl in_M (by decide) wd_941 (gI_spec e18) ?_
  refine g_icmpge (pc := 66) 175 d_M_luck_66 (by decide) (fun c24 => ?_) (fun c24 => ?_)
  · replace hf := (if_pos c24).symm.trans hf
    refine g_lconst (pc := 175) (0 : Int64) d_M_luck_175 (by decide) ?_
    refine g_lstore (pc := 176) [(5, .long (0 : Int64)), (0, .ref b0), (1, .int b1), (2, .int b2), (3, .long b3)] d_M_luck_176 (Nat.le_of_ble_eq_true rfl) rfl ?_
    refine g_aload_n (pc := 178) 1 d_M_luck_178 rfl rfl ?_
    refine g_iload_n (pc := 179) 2 d_M_luck_179 rfl rfl ?_
    obtain ⟨u20, e19, hf⟩ := bd1_e hf
    obtain ⟨x23, h21, e22, hf⟩ := bd2_e hf
    refine g_callV (pc := 180) (ci := 8) [.int b1] (site_of si_M_needOf (by decide) (by decide)) wd_1140 wd_1142 wp_45 d_M_luck_180 rfl e19 (Nat.le_of_ble_eq_true rfl) (fun z => absurd z (by decide)) (fun z => absurd z (by decide)) (fun z => absurd z (by decide)) (c_M_needOf e22) rfl ?_
    refine g_st [.int x23] rfl ?_
    refine g_istore (pc := 183) [(7, .int x23), (5, .long (0 : Int64)), (0, .ref b0), (1, .int b1), (2, .int b2), (3, .long b3)] d_M_luck_183 (Nat.le_of_ble_eq_true rfl) rfl ?_
    refine g_lv [2, 4, 5, 1, 0] rfl ?_
    exact t_M_luck_185  FU _ _ _ _ _ _ _ _  hf
  · replace hf := (if_neg c24).symm.trans hf
    refine g_iconst (pc := 69) (0 : Int32) d_M_luck_69 (by decide) ?_
    refine g_istore (pc := 70) [(6, .int (0 : Int32)), (0, .ref b0), (1, .int b1), (2, .int b2), (3, .long b3), (5, .int b5)] d_M_luck_70 (Nat.le_of_ble_eq_true rfl) rfl ?_
    refine g_lv [1, 2, 3, 4, 5, 0] rfl ?_
    exact t_M_luck_72 rec60 hrec60 FU _ _ _ _ _ _ _ _ _  hf
def f_M_luck_60  : Nat → Nat → Int32 → Int32 → Int64 → Int32 → mH → Option (Int64 × mH)
  | 0 => fun _ _ _ _ _ _ => none
  | n + 1 => f_M_luck_60b  (f_M_luck_60  n)
theorem t_M_luck_60 {sc : Nat × (Nat → Int32)}  : ∀ (n : Nat) (b0 : Nat) (b1 : Int32) (b2 : Int32) (b3 : Int64) (b5 : Int32) (h : mH) (r : Int64) (h' : mH) (hf : f_M_luck_60  n b0 b1 b2 b3 b5 h = some (r, h')), G sc y_M_luck prog_10_method_70_code 10 (some .long) 4 90 60 [(0, .ref b0), (1, .int b1), (2, .int b2), (3, .long b3), (5, .int b5)] [] h (some (.long r)) h'
  | 0, _, _, _, _, _, _, _, _, hf => by cases hf
  | n + 1, _, _, _, _, _, _, _, _, hf => t_M_luck_60b  (f_M_luck_60  n) (t_M_luck_60  n) _ _ _ _ _ _ _ _ hf
def f_M_luck_50 (rec27 : Nat → Int32 → Int32 → Int64 → Int32 → mH → Option (Int64 × mH)) (b0 : Nat) (b1 : Int32) (b2 : Int32) (b3 : Int64) (b5 : Int32) (s0 : Nat) (s1 : Int32) (s2 : Int64) (h : mH) : Option (Int64 × mH) :=
  bd1 (sL h s0 s1 s2) fun h15 =>
  rec27 b0 b1 b2 b3 (b5 + (1 : Int32)) h15
set_option maxRecDepth 20000 in
theorem t_M_luck_50 {sc : Nat × (Nat → Int32)} (rec27 : Nat → Int32 → Int32 → Int64 → Int32 → mH → Option (Int64 × mH)) (hrec27 : ∀ (b0 : Nat) (b1 : Int32) (b2 : Int32) (b3 : Int64) (b5 : Int32) (h : mH) (r : Int64) (h' : mH), rec27 b0 b1 b2 b3 b5 h = some (r, h') → G sc y_M_luck prog_10_method_70_code 10 (some .long) 4 90 27 [(0, .ref b0), (1, .int b1), (2, .int b2), (3, .long b3), (5, .int b5)] [] h (some (.long r)) h') (b0 : Nat) (b1 : Int32) (b2 : Int32) (b3 : Int64) (b5 : Int32) (s0 : Nat) (s1 : Int32) (s2 : Int64) (h : mH) (r : Int64) (h' : mH) (hf : f_M_luck_50 rec27 b0 b1 b2 b3 b5 s0 s1 s2 h = some (r, h')) : G sc y_M_luck prog_10_method_70_code 10 (some .long) 4 90 50 [(0, .ref b0), (1, .int b1), (2, .int b2), (3, .long b3), (5, .int b5)] [.long s2, .int s1, .ref s0] h (some (.long r)) h' := by
  unfold f_M_luck_50 at hf
  obtain ⟨h15, e16, hf⟩ := bd1_e hf
  refine g_last (pc := 50) d_M_luck_50 e16 ?_
  refine g_iinc (pc := 51) 4 (b5 + (1 : Int32)) [(5, .int (b5 + (1 : Int32))), (0, .ref b0), (1, .int b1), (2, .int b2), (3, .long b3)] d_M_luck_51 rfl rfl (Nat.le_of_ble_eq_true rfl) rfl ?_
  refine g_goto (pc := 54) 27 d_M_luck_54 (by decide) ?_
  refine g_lv [1, 2, 3, 4, 0] rfl ?_
  exact hrec27 _ _ _ _ _ _ _ _  hf
def f_M_luck_27b (rec27 : Nat → Int32 → Int32 → Int64 → Int32 → mH → Option (Int64 × mH)) (b0 : Nat) (b1 : Int32) (b2 : Int32) (b3 : Int64) (b5 : Int32) (h : mH) : Option (Int64 × mH) :=
  if (16 : Int32) ≤ b5 then
    f_M_luck_60  FU b0 b1 b2 b3 (0 : Int32) h
  else
    bd1 (gR h b0 8 32) fun x11 =>
    if b5 = 0 then
      f_M_luck_50 rec27 b0 b1 b2 b3 b5 x11 b5 (1 : Int64) h
    else
      f_M_luck_50 rec27 b0 b1 b2 b3 b5 x11 b5 (0 : Int64) h
set_option maxRecDepth 20000 in
theorem t_M_luck_27b {sc : Nat × (Nat → Int32)} (rec27 : Nat → Int32 → Int32 → Int64 → Int32 → mH → Option (Int64 × mH)) (hrec27 : ∀ (b0 : Nat) (b1 : Int32) (b2 : Int32) (b3 : Int64) (b5 : Int32) (h : mH) (r : Int64) (h' : mH), rec27 b0 b1 b2 b3 b5 h = some (r, h') → G sc y_M_luck prog_10_method_70_code 10 (some .long) 4 90 27 [(0, .ref b0), (1, .int b1), (2, .int b2), (3, .long b3), (5, .int b5)] [] h (some (.long r)) h') (b0 : Nat) (b1 : Int32) (b2 : Int32) (b3 : Int64) (b5 : Int32) (h : mH) (r : Int64) (h' : mH) (hf : f_M_luck_27b rec27 b0 b1 b2 b3 b5 h = some (r, h')) : G sc y_M_luck prog_10_method_70_code 10 (some .long) 4 90 27 [(0, .ref b0), (1, .int b1), (2, .int b2), (3, .long b3), (5, .int b5)] [] h (some (.long r)) h' := by
  unfold f_M_luck_27b at hf
  refine g_iload (pc := 27) 4 d_M_luck_27 rfl ?_
  refine g_bipush (pc := 29) (16 : Int32) d_M_luck_29 (by decide) ?_
  refine g_icmpge (pc := 31) 57 d_M_luck_31 (by decide) (fun c14 => ?_) (fun c14 => ?_)
  · replace hf := (if_pos c14).symm.trans hf
    refine g_iconst (pc := 57) (0 : Int32) d_M_luck_57 (by decide) ?_
    refine g_istore (pc := 58) [(5, .int (0 : Int32)), (0, .ref b0), (1, .int b1), (2, .int b2), (3, .long b3)] d_M_luck_58 (Nat.le_of_ble_eq_true rfl) rfl ?_
    refine g_lv [1, 2, 3, 4, 0] rfl ?_
    exact t_M_luck_60  FU _ _ _ _ _ _ _ _  hf
  · replace hf := (if_neg c14).symm.trans hf
    refine g_aload_n (pc := 34) 0 d_M_luck_34 rfl rfl ?_
    obtain ⟨x11, e12, hf⟩ := bd1_e hf
    refine g_get (pc := 35) (ci := 8) (kk := 32) d_M_luck_35 rfl in_M (by decide) wd_970 (gR_spec e12) ?_
    refine g_iload (pc := 38) 4 d_M_luck_38 rfl ?_
    refine g_iload (pc := 40) 4 d_M_luck_40 rfl ?_
    refine g_ifne (pc := 42) 49 d_M_luck_42 (by decide) (fun c13 => ?_) (fun c13 => ?_)
    · replace hf := (if_neg c13).symm.trans hf
      refine g_lconst (pc := 49) (0 : Int64) d_M_luck_49 (by decide) ?_
      refine g_lv [0, 1, 2, 3, 4] rfl ?_
      exact t_M_luck_50 rec27 hrec27 _ _ _ _ _ _ _ _ _ _ _  hf
    · replace hf := (if_pos c13).symm.trans hf
      refine g_lconst (pc := 45) (1 : Int64) d_M_luck_45 (by decide) ?_
      refine g_goto (pc := 46) 50 d_M_luck_46 (by decide) ?_
      refine g_lv [0, 1, 2, 3, 4] rfl ?_
      exact t_M_luck_50 rec27 hrec27 _ _ _ _ _ _ _ _ _ _ _  hf
def f_M_luck_27  : Nat → Nat → Int32 → Int32 → Int64 → Int32 → mH → Option (Int64 × mH)
  | 0 => fun _ _ _ _ _ _ => none
  | n + 1 => f_M_luck_27b  (f_M_luck_27  n)
theorem t_M_luck_27 {sc : Nat × (Nat → Int32)}  : ∀ (n : Nat) (b0 : Nat) (b1 : Int32) (b2 : Int32) (b3 : Int64) (b5 : Int32) (h : mH) (r : Int64) (h' : mH) (hf : f_M_luck_27  n b0 b1 b2 b3 b5 h = some (r, h')), G sc y_M_luck prog_10_method_70_code 10 (some .long) 4 90 27 [(0, .ref b0), (1, .int b1), (2, .int b2), (3, .long b3), (5, .int b5)] [] h (some (.long r)) h'
  | 0, _, _, _, _, _, _, _, _, hf => by cases hf
  | n + 1, _, _, _, _, _, _, _, _, hf => t_M_luck_27b  (f_M_luck_27  n) (t_M_luck_27  n) _ _ _ _ _ _ _ _ hf
def f_M_luck_18   (h : mH) : Option (Int64 × mH) :=
  some (((-1) : Int64), h)
set_option maxRecDepth 20000 in
theorem t_M_luck_18 {sc : Nat × (Nat → Int32)}   (h : mH) (r : Int64) (h' : mH) (hf : f_M_luck_18   h = some (r, h')) : G sc y_M_luck prog_10_method_70_code 10 (some .long) 4 90 18 [] [] h (some (.long r)) h' := by
  unfold f_M_luck_18 at hf
  refine g_ldc2 (pc := 18) ((-1) : Int64) d_M_luck_18 wd_1323 ?_
  obtain ⟨rfl, rfl⟩ := ret2 hf
  exact g_lret (pc := 21) rfl d_M_luck_21
def f_M_luck_0  (a0 : Nat) (a1 : Int32) (a2 : Int32) (h : mH) : Option (Int64 × mH) :=
  bd1 (kC h a0 8) fun _ =>
  bd2 (f_M_isLaw a0 a1 h) fun x5 h3 =>
  if x5 = 0 then
    f_M_luck_18  h3
  else
    bd2 (f_M_in a2.toInt64 (0 : Int64) (1 : Int64) h3) fun x8 h6 =>
    if x8 = 0 then
      f_M_luck_18  h6
    else
      f_M_luck_27  FU a0 a1 a2 (1 : Int64) (0 : Int32) h6
set_option maxRecDepth 20000 in
theorem t_M_luck_0 {sc : Nat × (Nat → Int32)}  (a0 : Nat) (a1 : Int32) (a2 : Int32) (h : mH) (r : Int64) (h' : mH) (hf : f_M_luck_0  a0 a1 a2 h = some (r, h')) : G sc y_M_luck prog_10_method_70_code 10 (some .long) 4 90 0 [(0, .ref a0), (1, .int a1), (2, .int a2)] [] h (some (.long r)) h' := by
  unfold f_M_luck_0 at hf
  refine g_aload_n (pc := 0) 0 d_M_luck_0 rfl rfl ?_
  refine g_iload_n (pc := 1) 1 d_M_luck_1 rfl rfl ?_
  obtain ⟨u2, e1, hf⟩ := bd1_e hf
  obtain ⟨x5, h3, e4, hf⟩ := bd2_e hf
  refine g_callV (pc := 2) (ci := 8) [.int a1] (site_of si_M_isLaw (by decide) (by decide)) wd_1136 wd_1138 wp_44 d_M_luck_2 rfl e1 (Nat.le_of_ble_eq_true rfl) (fun z => absurd z (by decide)) (fun z => absurd z (by decide)) (fun z => absurd z (by decide)) (c_M_isLaw e4) rfl ?_
  refine g_st [.int x5] rfl ?_
  refine g_ifeq (pc := 5) 18 d_M_luck_5 (by decide) (fun c10 => ?_) (fun c10 => ?_)
  · replace hf := (if_pos c10).symm.trans hf
    refine g_lv [] rfl ?_
    exact t_M_luck_18  _ _ _  hf
  · replace hf := (if_neg c10).symm.trans hf
    refine g_iload_n (pc := 8) 2 d_M_luck_8 rfl rfl ?_
    refine g_i2l (pc := 9) d_M_luck_9 ?_
    refine g_lconst (pc := 10) (0 : Int64) d_M_luck_10 (by decide) ?_
    refine g_lconst (pc := 11) (1 : Int64) d_M_luck_11 (by decide) ?_
    obtain ⟨x8, h6, e7, hf⟩ := bd2_e hf
    refine g_callS (pc := 12) [.long a2.toInt64, .long (0 : Int64), .long (1 : Int64)] (site_of si_M_in (by decide) (by decide)) wd_1061 wd_1062 d_M_luck_12 (Nat.le_of_ble_eq_true rfl) (fun z => absurd z (by decide)) (fun z => absurd z (by decide)) (fun z => absurd z (by decide)) (c_M_in e7) rfl ?_
    refine g_st [.int x8] rfl ?_
    refine g_ifne (pc := 15) 22 d_M_luck_15 (by decide) (fun c9 => ?_) (fun c9 => ?_)
    · replace hf := (if_neg c9).symm.trans hf
      refine g_lconst (pc := 22) (1 : Int64) d_M_luck_22 (by decide) ?_
      refine g_lstore_n (pc := 23) [(3, .long (1 : Int64)), (0, .ref a0), (1, .int a1), (2, .int a2)] d_M_luck_23 rfl (Nat.le_of_ble_eq_true rfl) rfl ?_
      refine g_iconst (pc := 24) (0 : Int32) d_M_luck_24 (by decide) ?_
      refine g_istore (pc := 25) [(5, .int (0 : Int32)), (3, .long (1 : Int64)), (0, .ref a0), (1, .int a1), (2, .int a2)] d_M_luck_25 (Nat.le_of_ble_eq_true rfl) rfl ?_
      refine g_lv [2, 3, 4, 1, 0] rfl ?_
      exact t_M_luck_27  FU _ _ _ _ _ _ _ _  hf
    · replace hf := (if_pos c9).symm.trans hf
      refine g_lv [] rfl ?_
      exact t_M_luck_18  _ _ _  hf
def f_M_luck (a0 : Nat) (a1 : Int32) (a2 : Int32) (h : mH) : Option (Int64 × mH) := f_M_luck_0 a0 a1 a2 h
theorem c_M_luck {sc : Nat × (Nat → Int32)} {a0 : Nat} {a1 : Int32} {a2 : Int32} {h : mH} {r : Int64} {h' : mH} (hf : f_M_luck a0 a1 a2 h = some (r, h')) : MM sc y_M_luck prog_10_method_70_code 10 (some .long) 4 90 [.ref a0, .int a1, .int a2] h (some (.long r)) h' :=
  mm_of_G (by decide) (Nat.le_of_ble_eq_true rfl) (t_M_luck_0 _ _ _ _ _ _ hf)
/-! M see (III)I -/
set_option maxRecDepth 100000 in
theorem dd_M_see_0 : (decode prog_10_method_71_code 0 = .ok (.iload_n 1, 1)) ∧ (decode prog_10_method_71_code 1 = .ok (.ifCond .ne 11, 3)) ∧ (decode prog_10_method_71_code 4 = .ok (.aload_n 0, 1)) ∧ (decode prog_10_method_71_code 5 = .ok (.iload_n 2, 1)) ∧ (decode prog_10_method_71_code 6 = .ok (.invokevirtual 213, 3)) ∧ (decode prog_10_method_71_code 9 = .ok (.goto 21, 3)) ∧ (decode prog_10_method_71_code 12 = .ok (.iload_n 1, 1)) ∧ (decode prog_10_method_71_code 13 = .ok (.iconst 1, 1)) ∧ (decode prog_10_method_71_code 14 = .ok (.if_icmp .ne 15, 3)) ∧ (decode prog_10_method_71_code 17 = .ok (.aload_n 0, 1)) ∧ (decode prog_10_method_71_code 18 = .ok (.iload_n 2, 1)) ∧ (decode prog_10_method_71_code 19 = .ok (.invokevirtual 210, 3)) ∧ (decode prog_10_method_71_code 22 = .ok (.ifCond .eq 7, 3)) ∧ (decode prog_10_method_71_code 25 = .ok (.iconst 1, 1)) ∧ (decode prog_10_method_71_code 26 = .ok (.goto 4, 3)) ∧ (decode prog_10_method_71_code 29 = .ok (.iconst 0, 1)) ∧ (decode prog_10_method_71_code 30 = .ok (.istore 4, 2)) ∧ (decode prog_10_method_71_code 32 = .ok (.iload 4, 2)) ∧ (decode prog_10_method_71_code 34 = .ok (.ifCond .eq 15, 3)) ∧ (decode prog_10_method_71_code 37 = .ok (.iload_n 3, 1)) ∧ (decode prog_10_method_71_code 38 = .ok (.i2l, 1)) ∧ (decode prog_10_method_71_code 39 = .ok (.lconst 0, 1)) ∧ (decode prog_10_method_71_code 40 = .ok (.ldc2_w 292, 3)) ∧ (decode prog_10_method_71_code 43 = .ok (.invokestatic 114, 3)) := by
  have h : List.drop 0 prog_10_method_71_code.data.toList = 0x1b :: _ := rfl
  refine ⟨zq_k_n 27 h rfl (zq_o_27 _), ?_⟩
  replace h := zq_nx1 (q := 1) h rfl
  refine ⟨zq_k_s2 154 (fun z => .ifCond .ne z) 11 h rfl (zq_o_154 _) (by decide +kernel), ?_⟩
  replace h := zq_nx3 (q := 4) h rfl
  refine ⟨zq_k_n 42 h rfl (zq_o_42 _), ?_⟩
  replace h := zq_nx1 (q := 5) h rfl
  refine ⟨zq_k_n 28 h rfl (zq_o_28 _), ?_⟩
  replace h := zq_nx1 (q := 6) h rfl
  refine ⟨zq_k_u2 182 (fun z => .invokevirtual z) 213 h rfl (zq_o_182 _) (by decide +kernel), ?_⟩
  replace h := zq_nx3 (q := 9) h rfl
  refine ⟨zq_k_s2 167 (fun z => .goto z) 21 h rfl (zq_o_167 _) (by decide +kernel), ?_⟩
  replace h := zq_nx3 (q := 12) h rfl
  refine ⟨zq_k_n 27 h rfl (zq_o_27 _), ?_⟩
  replace h := zq_nx1 (q := 13) h rfl
  refine ⟨zq_k_n 4 h rfl (zq_o_4 _), ?_⟩
  replace h := zq_nx1 (q := 14) h rfl
  refine ⟨zq_k_s2 160 (fun z => .if_icmp .ne z) 15 h rfl (zq_o_160 _) (by decide +kernel), ?_⟩
  replace h := zq_nx3 (q := 17) h rfl
  refine ⟨zq_k_n 42 h rfl (zq_o_42 _), ?_⟩
  replace h := zq_nx1 (q := 18) h rfl
  refine ⟨zq_k_n 28 h rfl (zq_o_28 _), ?_⟩
  replace h := zq_nx1 (q := 19) h rfl
  refine ⟨zq_k_u2 182 (fun z => .invokevirtual z) 210 h rfl (zq_o_182 _) (by decide +kernel), ?_⟩
  replace h := zq_nx3 (q := 22) h rfl
  refine ⟨zq_k_s2 153 (fun z => .ifCond .eq z) 7 h rfl (zq_o_153 _) (by decide +kernel), ?_⟩
  replace h := zq_nx3 (q := 25) h rfl
  refine ⟨zq_k_n 4 h rfl (zq_o_4 _), ?_⟩
  replace h := zq_nx1 (q := 26) h rfl
  refine ⟨zq_k_s2 167 (fun z => .goto z) 4 h rfl (zq_o_167 _) (by decide +kernel), ?_⟩
  replace h := zq_nx3 (q := 29) h rfl
  refine ⟨zq_k_n 3 h rfl (zq_o_3 _), ?_⟩
  replace h := zq_nx1 (q := 30) h rfl
  refine ⟨zq_k_u1 54 (fun z => .istore z) 4 h rfl (zq_o_54 _) (by decide +kernel), ?_⟩
  replace h := zq_nx2 (q := 32) h rfl
  refine ⟨zq_k_u1 21 (fun z => .iload z) 4 h rfl (zq_o_21 _) (by decide +kernel), ?_⟩
  replace h := zq_nx2 (q := 34) h rfl
  refine ⟨zq_k_s2 153 (fun z => .ifCond .eq z) 15 h rfl (zq_o_153 _) (by decide +kernel), ?_⟩
  replace h := zq_nx3 (q := 37) h rfl
  refine ⟨zq_k_n 29 h rfl (zq_o_29 _), ?_⟩
  replace h := zq_nx1 (q := 38) h rfl
  refine ⟨zq_k_n 133 h rfl (zq_o_133 _), ?_⟩
  replace h := zq_nx1 (q := 39) h rfl
  refine ⟨zq_k_n 9 h rfl (zq_o_9 _), ?_⟩
  replace h := zq_nx1 (q := 40) h rfl
  refine ⟨zq_k_u2 20 (fun z => .ldc2_w z) 292 h rfl (zq_o_20 _) (by decide +kernel), ?_⟩
  replace h := zq_nx3 (q := 43) h rfl
  exact zq_k_u2 184 (fun z => .invokestatic z) 114 h rfl (zq_o_184 _) (by decide +kernel)
theorem d_M_see_0 : decode prog_10_method_71_code 0 = .ok (.iload_n 1, 1) := dd_M_see_0.1
theorem d_M_see_1 : decode prog_10_method_71_code 1 = .ok (.ifCond .ne 11, 3) := dd_M_see_0.2.1
theorem d_M_see_4 : decode prog_10_method_71_code 4 = .ok (.aload_n 0, 1) := dd_M_see_0.2.2.1
theorem d_M_see_5 : decode prog_10_method_71_code 5 = .ok (.iload_n 2, 1) := dd_M_see_0.2.2.2.1
theorem d_M_see_6 : decode prog_10_method_71_code 6 = .ok (.invokevirtual 213, 3) := dd_M_see_0.2.2.2.2.1
theorem d_M_see_9 : decode prog_10_method_71_code 9 = .ok (.goto 21, 3) := dd_M_see_0.2.2.2.2.2.1
theorem d_M_see_12 : decode prog_10_method_71_code 12 = .ok (.iload_n 1, 1) := dd_M_see_0.2.2.2.2.2.2.1
theorem d_M_see_13 : decode prog_10_method_71_code 13 = .ok (.iconst 1, 1) := dd_M_see_0.2.2.2.2.2.2.2.1
theorem d_M_see_14 : decode prog_10_method_71_code 14 = .ok (.if_icmp .ne 15, 3) := dd_M_see_0.2.2.2.2.2.2.2.2.1
theorem d_M_see_17 : decode prog_10_method_71_code 17 = .ok (.aload_n 0, 1) := dd_M_see_0.2.2.2.2.2.2.2.2.2.1
theorem d_M_see_18 : decode prog_10_method_71_code 18 = .ok (.iload_n 2, 1) := dd_M_see_0.2.2.2.2.2.2.2.2.2.2.1
theorem d_M_see_19 : decode prog_10_method_71_code 19 = .ok (.invokevirtual 210, 3) := dd_M_see_0.2.2.2.2.2.2.2.2.2.2.2.1
theorem d_M_see_22 : decode prog_10_method_71_code 22 = .ok (.ifCond .eq 7, 3) := dd_M_see_0.2.2.2.2.2.2.2.2.2.2.2.2.1
theorem d_M_see_25 : decode prog_10_method_71_code 25 = .ok (.iconst 1, 1) := dd_M_see_0.2.2.2.2.2.2.2.2.2.2.2.2.2.1
theorem d_M_see_26 : decode prog_10_method_71_code 26 = .ok (.goto 4, 3) := dd_M_see_0.2.2.2.2.2.2.2.2.2.2.2.2.2.2.1
theorem d_M_see_29 : decode prog_10_method_71_code 29 = .ok (.iconst 0, 1) := dd_M_see_0.2.2.2.2.2.2.2.2.2.2.2.2.2.2.2.1
theorem d_M_see_30 : decode prog_10_method_71_code 30 = .ok (.istore 4, 2) := dd_M_see_0.2.2.2.2.2.2.2.2.2.2.2.2.2.2.2.2.1
theorem d_M_see_32 : decode prog_10_method_71_code 32 = .ok (.iload 4, 2) := dd_M_see_0.2.2.2.2.2.2.2.2.2.2.2.2.2.2.2.2.2.1
theorem d_M_see_34 : decode prog_10_method_71_code 34 = .ok (.ifCond .eq 15, 3) := dd_M_see_0.2.2.2.2.2.2.2.2.2.2.2.2.2.2.2.2.2.2.1
theorem d_M_see_37 : decode prog_10_method_71_code 37 = .ok (.iload_n 3, 1) := dd_M_see_0.2.2.2.2.2.2.2.2.2.2.2.2.2.2.2.2.2.2.2.1
theorem d_M_see_38 : decode prog_10_method_71_code 38 = .ok (.i2l, 1) := dd_M_see_0.2.2.2.2.2.2.2.2.2.2.2.2.2.2.2.2.2.2.2.2.1
theorem d_M_see_39 : decode prog_10_method_71_code 39 = .ok (.lconst 0, 1) := dd_M_see_0.2.2.2.2.2.2.2.2.2.2.2.2.2.2.2.2.2.2.2.2.2.1
theorem d_M_see_40 : decode prog_10_method_71_code 40 = .ok (.ldc2_w 292, 3) := dd_M_see_0.2.2.2.2.2.2.2.2.2.2.2.2.2.2.2.2.2.2.2.2.2.2.1
theorem d_M_see_43 : decode prog_10_method_71_code 43 = .ok (.invokestatic 114, 3) := dd_M_see_0.2.2.2.2.2.2.2.2.2.2.2.2.2.2.2.2.2.2.2.2.2.2.2
set_option maxRecDepth 100000 in
theorem dd_M_see_46 : (decode prog_10_method_71_code 46 = .ok (.ifCond .ne 5, 3)) ∧ (decode prog_10_method_71_code 49 = .ok (.iconst (-1), 1)) ∧ (decode prog_10_method_71_code 50 = .ok (.ireturn, 1)) ∧ (decode prog_10_method_71_code 51 = .ok (.aload_n 0, 1)) ∧ (decode prog_10_method_71_code 52 = .ok (.getfield 7, 3)) ∧ (decode prog_10_method_71_code 55 = .ok (.bipush 41, 2)) ∧ (decode prog_10_method_71_code 57 = .ok (.iaload, 1)) ∧ (decode prog_10_method_71_code 58 = .ok (.bipush 8, 2)) ∧ (decode prog_10_method_71_code 60 = .ok (.if_icmp .ne 6, 3)) ∧ (decode prog_10_method_71_code 63 = .ok (.bipush (-3), 2)) ∧ (decode prog_10_method_71_code 65 = .ok (.ireturn, 1)) ∧ (decode prog_10_method_71_code 66 = .ok (.bipush 42, 2)) ∧ (decode prog_10_method_71_code 68 = .ok (.iconst 3, 1)) ∧ (decode prog_10_method_71_code 69 = .ok (.aload_n 0, 1)) ∧ (decode prog_10_method_71_code 70 = .ok (.getfield 7, 3)) ∧ (decode prog_10_method_71_code 73 = .ok (.bipush 41, 2)) ∧ (decode prog_10_method_71_code 75 = .ok (.iaload, 1)) ∧ (decode prog_10_method_71_code 76 = .ok (.imul, 1)) ∧ (decode prog_10_method_71_code 77 = .ok (.iadd, 1)) ∧ (decode prog_10_method_71_code 78 = .ok (.istore 5, 2)) ∧ (decode prog_10_method_71_code 80 = .ok (.aload_n 0, 1)) ∧ (decode prog_10_method_71_code 81 = .ok (.getfield 7, 3)) ∧ (decode prog_10_method_71_code 84 = .ok (.iload 5, 2)) ∧ (decode prog_10_method_71_code 86 = .ok (.iload_n 1, 1)) := by
  have h : List.drop 46 prog_10_method_71_code.data.toList = 0x9a :: _ := rfl
  refine ⟨zq_k_s2 154 (fun z => .ifCond .ne z) 5 h rfl (zq_o_154 _) (by decide +kernel), ?_⟩
  replace h := zq_nx3 (q := 49) h rfl
  refine ⟨zq_k_n 2 h rfl (zq_o_2 _), ?_⟩
  replace h := zq_nx1 (q := 50) h rfl
  refine ⟨zq_k_n 172 h rfl (zq_o_172 _), ?_⟩
  replace h := zq_nx1 (q := 51) h rfl
  refine ⟨zq_k_n 42 h rfl (zq_o_42 _), ?_⟩
  replace h := zq_nx1 (q := 52) h rfl
  refine ⟨zq_k_u2 180 (fun z => .getfield z) 7 h rfl (zq_o_180 _) (by decide +kernel), ?_⟩
  replace h := zq_nx3 (q := 55) h rfl
  refine ⟨zq_k_s1 16 (fun z => .bipush z) 41 h rfl (zq_o_16 _) (by decide +kernel), ?_⟩
  replace h := zq_nx2 (q := 57) h rfl
  refine ⟨zq_k_n 46 h rfl (zq_o_46 _), ?_⟩
  replace h := zq_nx1 (q := 58) h rfl
  refine ⟨zq_k_s1 16 (fun z => .bipush z) 8 h rfl (zq_o_16 _) (by decide +kernel), ?_⟩
  replace h := zq_nx2 (q := 60) h rfl
  refine ⟨zq_k_s2 160 (fun z => .if_icmp .ne z) 6 h rfl (zq_o_160 _) (by decide +kernel), ?_⟩
  replace h := zq_nx3 (q := 63) h rfl
  refine ⟨zq_k_s1 16 (fun z => .bipush z) (-3) h rfl (zq_o_16 _) (by decide +kernel), ?_⟩
  replace h := zq_nx2 (q := 65) h rfl
  refine ⟨zq_k_n 172 h rfl (zq_o_172 _), ?_⟩
  replace h := zq_nx1 (q := 66) h rfl
  refine ⟨zq_k_s1 16 (fun z => .bipush z) 42 h rfl (zq_o_16 _) (by decide +kernel), ?_⟩
  replace h := zq_nx2 (q := 68) h rfl
  refine ⟨zq_k_n 6 h rfl (zq_o_6 _), ?_⟩
  replace h := zq_nx1 (q := 69) h rfl
  refine ⟨zq_k_n 42 h rfl (zq_o_42 _), ?_⟩
  replace h := zq_nx1 (q := 70) h rfl
  refine ⟨zq_k_u2 180 (fun z => .getfield z) 7 h rfl (zq_o_180 _) (by decide +kernel), ?_⟩
  replace h := zq_nx3 (q := 73) h rfl
  refine ⟨zq_k_s1 16 (fun z => .bipush z) 41 h rfl (zq_o_16 _) (by decide +kernel), ?_⟩
  replace h := zq_nx2 (q := 75) h rfl
  refine ⟨zq_k_n 46 h rfl (zq_o_46 _), ?_⟩
  replace h := zq_nx1 (q := 76) h rfl
  refine ⟨zq_k_n 104 h rfl (zq_o_104 _), ?_⟩
  replace h := zq_nx1 (q := 77) h rfl
  refine ⟨zq_k_n 96 h rfl (zq_o_96 _), ?_⟩
  replace h := zq_nx1 (q := 78) h rfl
  refine ⟨zq_k_u1 54 (fun z => .istore z) 5 h rfl (zq_o_54 _) (by decide +kernel), ?_⟩
  replace h := zq_nx2 (q := 80) h rfl
  refine ⟨zq_k_n 42 h rfl (zq_o_42 _), ?_⟩
  replace h := zq_nx1 (q := 81) h rfl
  refine ⟨zq_k_u2 180 (fun z => .getfield z) 7 h rfl (zq_o_180 _) (by decide +kernel), ?_⟩
  replace h := zq_nx3 (q := 84) h rfl
  refine ⟨zq_k_u1 21 (fun z => .iload z) 5 h rfl (zq_o_21 _) (by decide +kernel), ?_⟩
  replace h := zq_nx2 (q := 86) h rfl
  exact zq_k_n 27 h rfl (zq_o_27 _)
theorem d_M_see_46 : decode prog_10_method_71_code 46 = .ok (.ifCond .ne 5, 3) := dd_M_see_46.1
theorem d_M_see_49 : decode prog_10_method_71_code 49 = .ok (.iconst (-1), 1) := dd_M_see_46.2.1
theorem d_M_see_50 : decode prog_10_method_71_code 50 = .ok (.ireturn, 1) := dd_M_see_46.2.2.1
theorem d_M_see_51 : decode prog_10_method_71_code 51 = .ok (.aload_n 0, 1) := dd_M_see_46.2.2.2.1
theorem d_M_see_52 : decode prog_10_method_71_code 52 = .ok (.getfield 7, 3) := dd_M_see_46.2.2.2.2.1
theorem d_M_see_55 : decode prog_10_method_71_code 55 = .ok (.bipush 41, 2) := dd_M_see_46.2.2.2.2.2.1
theorem d_M_see_57 : decode prog_10_method_71_code 57 = .ok (.iaload, 1) := dd_M_see_46.2.2.2.2.2.2.1
theorem d_M_see_58 : decode prog_10_method_71_code 58 = .ok (.bipush 8, 2) := dd_M_see_46.2.2.2.2.2.2.2.1
theorem d_M_see_60 : decode prog_10_method_71_code 60 = .ok (.if_icmp .ne 6, 3) := dd_M_see_46.2.2.2.2.2.2.2.2.1
theorem d_M_see_63 : decode prog_10_method_71_code 63 = .ok (.bipush (-3), 2) := dd_M_see_46.2.2.2.2.2.2.2.2.2.1
theorem d_M_see_65 : decode prog_10_method_71_code 65 = .ok (.ireturn, 1) := dd_M_see_46.2.2.2.2.2.2.2.2.2.2.1
theorem d_M_see_66 : decode prog_10_method_71_code 66 = .ok (.bipush 42, 2) := dd_M_see_46.2.2.2.2.2.2.2.2.2.2.2.1
theorem d_M_see_68 : decode prog_10_method_71_code 68 = .ok (.iconst 3, 1) := dd_M_see_46.2.2.2.2.2.2.2.2.2.2.2.2.1
theorem d_M_see_69 : decode prog_10_method_71_code 69 = .ok (.aload_n 0, 1) := dd_M_see_46.2.2.2.2.2.2.2.2.2.2.2.2.2.1
theorem d_M_see_70 : decode prog_10_method_71_code 70 = .ok (.getfield 7, 3) := dd_M_see_46.2.2.2.2.2.2.2.2.2.2.2.2.2.2.1
theorem d_M_see_73 : decode prog_10_method_71_code 73 = .ok (.bipush 41, 2) := dd_M_see_46.2.2.2.2.2.2.2.2.2.2.2.2.2.2.2.1
theorem d_M_see_75 : decode prog_10_method_71_code 75 = .ok (.iaload, 1) := dd_M_see_46.2.2.2.2.2.2.2.2.2.2.2.2.2.2.2.2.1
theorem d_M_see_76 : decode prog_10_method_71_code 76 = .ok (.imul, 1) := dd_M_see_46.2.2.2.2.2.2.2.2.2.2.2.2.2.2.2.2.2.1
theorem d_M_see_77 : decode prog_10_method_71_code 77 = .ok (.iadd, 1) := dd_M_see_46.2.2.2.2.2.2.2.2.2.2.2.2.2.2.2.2.2.2.1
theorem d_M_see_78 : decode prog_10_method_71_code 78 = .ok (.istore 5, 2) := dd_M_see_46.2.2.2.2.2.2.2.2.2.2.2.2.2.2.2.2.2.2.2.1
theorem d_M_see_80 : decode prog_10_method_71_code 80 = .ok (.aload_n 0, 1) := dd_M_see_46.2.2.2.2.2.2.2.2.2.2.2.2.2.2.2.2.2.2.2.2.1
theorem d_M_see_81 : decode prog_10_method_71_code 81 = .ok (.getfield 7, 3) := dd_M_see_46.2.2.2.2.2.2.2.2.2.2.2.2.2.2.2.2.2.2.2.2.2.1
theorem d_M_see_84 : decode prog_10_method_71_code 84 = .ok (.iload 5, 2) := dd_M_see_46.2.2.2.2.2.2.2.2.2.2.2.2.2.2.2.2.2.2.2.2.2.2.1
theorem d_M_see_86 : decode prog_10_method_71_code 86 = .ok (.iload_n 1, 1) := dd_M_see_46.2.2.2.2.2.2.2.2.2.2.2.2.2.2.2.2.2.2.2.2.2.2.2
set_option maxRecDepth 100000 in
theorem dd_M_see_87 : (decode prog_10_method_71_code 87 = .ok (.iastore, 1)) ∧ (decode prog_10_method_71_code 88 = .ok (.aload_n 0, 1)) ∧ (decode prog_10_method_71_code 89 = .ok (.getfield 7, 3)) ∧ (decode prog_10_method_71_code 92 = .ok (.iload 5, 2)) ∧ (decode prog_10_method_71_code 94 = .ok (.iconst 1, 1)) ∧ (decode prog_10_method_71_code 95 = .ok (.iadd, 1)) ∧ (decode prog_10_method_71_code 96 = .ok (.iload_n 2, 1)) ∧ (decode prog_10_method_71_code 97 = .ok (.iastore, 1)) ∧ (decode prog_10_method_71_code 98 = .ok (.aload_n 0, 1)) ∧ (decode prog_10_method_71_code 99 = .ok (.getfield 7, 3)) ∧ (decode prog_10_method_71_code 102 = .ok (.iload 5, 2)) ∧ (decode prog_10_method_71_code 104 = .ok (.iconst 2, 1)) ∧ (decode prog_10_method_71_code 105 = .ok (.iadd, 1)) ∧ (decode prog_10_method_71_code 106 = .ok (.iload_n 3, 1)) ∧ (decode prog_10_method_71_code 107 = .ok (.iastore, 1)) ∧ (decode prog_10_method_71_code 108 = .ok (.aload_n 0, 1)) ∧ (decode prog_10_method_71_code 109 = .ok (.getfield 7, 3)) ∧ (decode prog_10_method_71_code 112 = .ok (.bipush 41, 2)) ∧ (decode prog_10_method_71_code 114 = .ok (.dup2, 1)) ∧ (decode prog_10_method_71_code 115 = .ok (.iaload, 1)) ∧ (decode prog_10_method_71_code 116 = .ok (.iconst 1, 1)) ∧ (decode prog_10_method_71_code 117 = .ok (.iadd, 1)) ∧ (decode prog_10_method_71_code 118 = .ok (.iastore, 1)) ∧ (decode prog_10_method_71_code 119 = .ok (.aload_n 0, 1)) := by
  have h : List.drop 87 prog_10_method_71_code.data.toList = 0x4f :: _ := rfl
  refine ⟨zq_k_n 79 h rfl (zq_o_79 _), ?_⟩
  replace h := zq_nx1 (q := 88) h rfl
  refine ⟨zq_k_n 42 h rfl (zq_o_42 _), ?_⟩
  replace h := zq_nx1 (q := 89) h rfl
  refine ⟨zq_k_u2 180 (fun z => .getfield z) 7 h rfl (zq_o_180 _) (by decide +kernel), ?_⟩
  replace h := zq_nx3 (q := 92) h rfl
  refine ⟨zq_k_u1 21 (fun z => .iload z) 5 h rfl (zq_o_21 _) (by decide +kernel), ?_⟩
  replace h := zq_nx2 (q := 94) h rfl
  refine ⟨zq_k_n 4 h rfl (zq_o_4 _), ?_⟩
  replace h := zq_nx1 (q := 95) h rfl
  refine ⟨zq_k_n 96 h rfl (zq_o_96 _), ?_⟩
  replace h := zq_nx1 (q := 96) h rfl
  refine ⟨zq_k_n 28 h rfl (zq_o_28 _), ?_⟩
  replace h := zq_nx1 (q := 97) h rfl
  refine ⟨zq_k_n 79 h rfl (zq_o_79 _), ?_⟩
  replace h := zq_nx1 (q := 98) h rfl
  refine ⟨zq_k_n 42 h rfl (zq_o_42 _), ?_⟩
  replace h := zq_nx1 (q := 99) h rfl
  refine ⟨zq_k_u2 180 (fun z => .getfield z) 7 h rfl (zq_o_180 _) (by decide +kernel), ?_⟩
  replace h := zq_nx3 (q := 102) h rfl
  refine ⟨zq_k_u1 21 (fun z => .iload z) 5 h rfl (zq_o_21 _) (by decide +kernel), ?_⟩
  replace h := zq_nx2 (q := 104) h rfl
  refine ⟨zq_k_n 5 h rfl (zq_o_5 _), ?_⟩
  replace h := zq_nx1 (q := 105) h rfl
  refine ⟨zq_k_n 96 h rfl (zq_o_96 _), ?_⟩
  replace h := zq_nx1 (q := 106) h rfl
  refine ⟨zq_k_n 29 h rfl (zq_o_29 _), ?_⟩
  replace h := zq_nx1 (q := 107) h rfl
  refine ⟨zq_k_n 79 h rfl (zq_o_79 _), ?_⟩
  replace h := zq_nx1 (q := 108) h rfl
  refine ⟨zq_k_n 42 h rfl (zq_o_42 _), ?_⟩
  replace h := zq_nx1 (q := 109) h rfl
  refine ⟨zq_k_u2 180 (fun z => .getfield z) 7 h rfl (zq_o_180 _) (by decide +kernel), ?_⟩
  replace h := zq_nx3 (q := 112) h rfl
  refine ⟨zq_k_s1 16 (fun z => .bipush z) 41 h rfl (zq_o_16 _) (by decide +kernel), ?_⟩
  replace h := zq_nx2 (q := 114) h rfl
  refine ⟨zq_k_n 92 h rfl (zq_o_92 _), ?_⟩
  replace h := zq_nx1 (q := 115) h rfl
  refine ⟨zq_k_n 46 h rfl (zq_o_46 _), ?_⟩
  replace h := zq_nx1 (q := 116) h rfl
  refine ⟨zq_k_n 4 h rfl (zq_o_4 _), ?_⟩
  replace h := zq_nx1 (q := 117) h rfl
  refine ⟨zq_k_n 96 h rfl (zq_o_96 _), ?_⟩
  replace h := zq_nx1 (q := 118) h rfl
  refine ⟨zq_k_n 79 h rfl (zq_o_79 _), ?_⟩
  replace h := zq_nx1 (q := 119) h rfl
  exact zq_k_n 42 h rfl (zq_o_42 _)
theorem d_M_see_87 : decode prog_10_method_71_code 87 = .ok (.iastore, 1) := dd_M_see_87.1
theorem d_M_see_88 : decode prog_10_method_71_code 88 = .ok (.aload_n 0, 1) := dd_M_see_87.2.1
theorem d_M_see_89 : decode prog_10_method_71_code 89 = .ok (.getfield 7, 3) := dd_M_see_87.2.2.1
theorem d_M_see_92 : decode prog_10_method_71_code 92 = .ok (.iload 5, 2) := dd_M_see_87.2.2.2.1
theorem d_M_see_94 : decode prog_10_method_71_code 94 = .ok (.iconst 1, 1) := dd_M_see_87.2.2.2.2.1
theorem d_M_see_95 : decode prog_10_method_71_code 95 = .ok (.iadd, 1) := dd_M_see_87.2.2.2.2.2.1
theorem d_M_see_96 : decode prog_10_method_71_code 96 = .ok (.iload_n 2, 1) := dd_M_see_87.2.2.2.2.2.2.1
theorem d_M_see_97 : decode prog_10_method_71_code 97 = .ok (.iastore, 1) := dd_M_see_87.2.2.2.2.2.2.2.1
theorem d_M_see_98 : decode prog_10_method_71_code 98 = .ok (.aload_n 0, 1) := dd_M_see_87.2.2.2.2.2.2.2.2.1
theorem d_M_see_99 : decode prog_10_method_71_code 99 = .ok (.getfield 7, 3) := dd_M_see_87.2.2.2.2.2.2.2.2.2.1
theorem d_M_see_102 : decode prog_10_method_71_code 102 = .ok (.iload 5, 2) := dd_M_see_87.2.2.2.2.2.2.2.2.2.2.1
theorem d_M_see_104 : decode prog_10_method_71_code 104 = .ok (.iconst 2, 1) := dd_M_see_87.2.2.2.2.2.2.2.2.2.2.2.1
theorem d_M_see_105 : decode prog_10_method_71_code 105 = .ok (.iadd, 1) := dd_M_see_87.2.2.2.2.2.2.2.2.2.2.2.2.1
theorem d_M_see_106 : decode prog_10_method_71_code 106 = .ok (.iload_n 3, 1) := dd_M_see_87.2.2.2.2.2.2.2.2.2.2.2.2.2.1
theorem d_M_see_107 : decode prog_10_method_71_code 107 = .ok (.iastore, 1) := dd_M_see_87.2.2.2.2.2.2.2.2.2.2.2.2.2.2.1
theorem d_M_see_108 : decode prog_10_method_71_code 108 = .ok (.aload_n 0, 1) := dd_M_see_87.2.2.2.2.2.2.2.2.2.2.2.2.2.2.2.1
theorem d_M_see_109 : decode prog_10_method_71_code 109 = .ok (.getfield 7, 3) := dd_M_see_87.2.2.2.2.2.2.2.2.2.2.2.2.2.2.2.2.1
theorem d_M_see_112 : decode prog_10_method_71_code 112 = .ok (.bipush 41, 2) := dd_M_see_87.2.2.2.2.2.2.2.2.2.2.2.2.2.2.2.2.2.1
theorem d_M_see_114 : decode prog_10_method_71_code 114 = .ok (.dup2, 1) := dd_M_see_87.2.2.2.2.2.2.2.2.2.2.2.2.2.2.2.2.2.2.1
theorem d_M_see_115 : decode prog_10_method_71_code 115 = .ok (.iaload, 1) := dd_M_see_87.2.2.2.2.2.2.2.2.2.2.2.2.2.2.2.2.2.2.2.1
theorem d_M_see_116 : decode prog_10_method_71_code 116 = .ok (.iconst 1, 1) := dd_M_see_87.2.2.2.2.2.2.2.2.2.2.2.2.2.2.2.2.2.2.2.2.1
theorem d_M_see_117 : decode prog_10_method_71_code 117 = .ok (.iadd, 1) := dd_M_see_87.2.2.2.2.2.2.2.2.2.2.2.2.2.2.2.2.2.2.2.2.2.1
theorem d_M_see_118 : decode prog_10_method_71_code 118 = .ok (.iastore, 1) := dd_M_see_87.2.2.2.2.2.2.2.2.2.2.2.2.2.2.2.2.2.2.2.2.2.2.1
theorem d_M_see_119 : decode prog_10_method_71_code 119 = .ok (.aload_n 0, 1) := dd_M_see_87.2.2.2.2.2.2.2.2.2.2.2.2.2.2.2.2.2.2.2.2.2.2.2
set_option maxRecDepth 100000 in
theorem dd_M_see_120 : (decode prog_10_method_71_code 120 = .ok (.getfield 7, 3)) ∧ (decode prog_10_method_71_code 123 = .ok (.bipush 41, 2)) ∧ (decode prog_10_method_71_code 125 = .ok (.iaload, 1)) ∧ (decode prog_10_method_71_code 126 = .ok (.ireturn, 1)) := by
  have h : List.drop 120 prog_10_method_71_code.data.toList = 0xb4 :: _ := rfl
  refine ⟨zq_k_u2 180 (fun z => .getfield z) 7 h rfl (zq_o_180 _) (by decide +kernel), ?_⟩
  replace h := zq_nx3 (q := 123) h rfl
  refine ⟨zq_k_s1 16 (fun z => .bipush z) 41 h rfl (zq_o_16 _) (by decide +kernel), ?_⟩
  replace h := zq_nx2 (q := 125) h rfl
  refine ⟨zq_k_n 46 h rfl (zq_o_46 _), ?_⟩
  replace h := zq_nx1 (q := 126) h rfl
  exact zq_k_n 172 h rfl (zq_o_172 _)
theorem d_M_see_120 : decode prog_10_method_71_code 120 = .ok (.getfield 7, 3) := dd_M_see_120.1
theorem d_M_see_123 : decode prog_10_method_71_code 123 = .ok (.bipush 41, 2) := dd_M_see_120.2.1
theorem d_M_see_125 : decode prog_10_method_71_code 125 = .ok (.iaload, 1) := dd_M_see_120.2.2.1
theorem d_M_see_126 : decode prog_10_method_71_code 126 = .ok (.ireturn, 1) := dd_M_see_120.2.2.2
def f_M_see_49   (h : mH) : Option (Int32 × mH) :=
  some (((-1) : Int32), h)
set_option maxRecDepth 20000 in
theorem t_M_see_49 {sc : Nat × (Nat → Int32)}   (h : mH) (r : Int32) (h' : mH) (hf : f_M_see_49   h = some (r, h')) : G sc y_M_see prog_10_method_71_code 6 (some .int) 2 46 49 [] [] h (some (.int r)) h' := by
  unfold f_M_see_49 at hf
  refine g_iconst (pc := 49) ((-1) : Int32) d_M_see_49 (by decide) ?_
  obtain ⟨rfl, rfl⟩ := ret2 hf
  exact g_iret (pc := 50) rfl d_M_see_50
def f_M_see_30  (b0 : Nat) (b1 : Int32) (b2 : Int32) (b3 : Int32) (s0 : Int32) (h : mH) : Option (Int32 × mH) :=
  if s0 = 0 then
    f_M_see_49  h
  else
    bd2 (f_M_in b3.toInt64 (0 : Int64) (20 : Int64) h) fun x16 h14 =>
    if x16 = 0 then
      f_M_see_49  h14
    else
      bd1 (gR h14 b0 8 0) fun x17 =>
      bd1 (aI h14 0 x17 (41 : Int32)) fun x19 =>
      if x19 = (8 : Int32) then
        some (((-3) : Int32), h14)
      else
        bd1 (gR h14 b0 8 0) fun x21 =>
        bd1 (aI h14 0 x21 (41 : Int32)) fun x23 =>
        bd1 (gR h14 b0 8 0) fun x25 =>
        bd1 (sI h14 0 x25 ((42 : Int32) + ((3 : Int32) * x23)) b1) fun h27 =>
        bd1 (gR h27 b0 8 0) fun x29 =>
        bd1 (sI h27 0 x29 (((42 : Int32) + ((3 : Int32) * x23)) + (1 : Int32)) b2) fun h31 =>
        bd1 (gR h31 b0 8 0) fun x33 =>
        bd1 (sI h31 0 x33 (((42 : Int32) + ((3 : Int32) * x23)) + (2 : Int32)) b3) fun h35 =>
        bd1 (gR h35 b0 8 0) fun x37 =>
        bd1 (aI h35 0 x37 (41 : Int32)) fun x39 =>
        bd1 (sI h35 0 x37 (41 : Int32) (x39 + (1 : Int32))) fun h41 =>
        bd1 (gR h41 b0 8 0) fun x43 =>
        bd1 (aI h41 0 x43 (41 : Int32)) fun x45 =>
        some (x45, h41)
set_option maxRecDepth 20000 in
theorem t_M_see_30 {sc : Nat × (Nat → Int32)}  (b0 : Nat) (b1 : Int32) (b2 : Int32) (b3 : Int32) (s0 : Int32) (h : mH) (r : Int32) (h' : mH) (hf : f_M_see_30  b0 b1 b2 b3 s0 h = some (r, h')) : G sc y_M_see prog_10_method_71_code 6 (some .int) 2 46 30 [(0, .ref b0), (1, .int b1), (2, .int b2), (3, .int b3)] [.int s0] h (some (.int r)) h' := by
  unfold f_M_see_30 at hf
  refine g_istore (pc := 30) [(4, .int s0), (0, .ref b0), (1, .int b1), (2, .int b2), (3, .int b3)] d_M_see_30 (Nat.le_of_ble_eq_true rfl) rfl ?_
  refine g_iload (pc := 32) 0 d_M_see_32 rfl ?_
  refine g_ifeq (pc := 34) 49 d_M_see_34 (by decide) (fun c49 => ?_) (fun c49 => ?_)
  · replace hf := (if_pos c49).symm.trans hf
    refine g_lv [] rfl ?_
    exact t_M_see_49  _ _ _  hf
  · replace hf := (if_neg c49).symm.trans hf
    refine g_iload_n (pc := 37) 4 d_M_see_37 rfl rfl ?_
    refine g_i2l (pc := 38) d_M_see_38 ?_
    refine g_lconst (pc := 39) (0 : Int64) d_M_see_39 (by decide) ?_
    refine g_ldc2 (pc := 40) (20 : Int64) d_M_see_40 wd_1332 ?_
    obtain ⟨x16, h14, e15, hf⟩ := bd2_e hf
    refine g_callS (pc := 43) [.long b3.toInt64, .long (0 : Int64), .long (20 : Int64)] (site_of si_M_in (by decide) (by decide)) wd_1061 wd_1062 d_M_see_43 (Nat.le_of_ble_eq_true rfl) (fun z => absurd z (by decide)) (fun z => absurd z (by decide)) (fun z => absurd z (by decide)) (c_M_in e15) rfl ?_
    refine g_st [.int x16] rfl ?_
    refine g_ifne (pc := 46) 51 d_M_see_46 (by decide) (fun c48 => ?_) (fun c48 => ?_)
    · replace hf := (if_neg c48).symm.trans hf
      refine g_aload_n (pc := 51) 1 d_M_see_51 rfl rfl ?_
      obtain ⟨x17, e18, hf⟩ := bd1_e hf
      refine g_get (pc := 52) (ci := 8) (kk := 0) d_M_see_52 rfl in_M (by decide) wd_938 (gR_spec e18) ?_
      refine g_bipush (pc := 55) (41 : Int32) d_M_see_55 (by decide) ?_
      obtain ⟨x19, e20, hf⟩ := bd1_e hf
      refine g_iald (pc := 57) d_M_see_57 e20 ?_
      refine g_bipush (pc := 58) (8 : Int32) d_M_see_58 (by decide) ?_
      refine g_icmpne (pc := 60) 66 d_M_see_60 (by decide) (fun c47 => ?_) (fun c47 => ?_)
      · replace hf := (if_neg c47).symm.trans hf
        refine g_bipush (pc := 66) (42 : Int32) d_M_see_66 (by decide) ?_
        refine g_iconst (pc := 68) (3 : Int32) d_M_see_68 (by decide) ?_
        refine g_aload_n (pc := 69) 1 d_M_see_69 rfl rfl ?_
        obtain ⟨x21, e22, hf⟩ := bd1_e hf
        refine g_get (pc := 70) (ci := 8) (kk := 0) d_M_see_70 rfl in_M (by decide) wd_938 (gR_spec e22) ?_
        refine g_bipush (pc := 73) (41 : Int32) d_M_see_73 (by decide) ?_
        obtain ⟨x23, e24, hf⟩ := bd1_e hf
        refine g_iald (pc := 75) d_M_see_75 e24 ?_
        refine g_imul (pc := 76) d_M_see_76 ?_
        refine g_iadd (pc := 77) d_M_see_77 ?_
        refine g_istore (pc := 78) [(5, .int ((42 : Int32) + ((3 : Int32) * x23))), (4, .int s0), (0, .ref b0), (1, .int b1), (2, .int b2), (3, .int b3)] d_M_see_78 (Nat.le_of_ble_eq_true rfl) rfl ?_
        refine g_aload_n (pc := 80) 2 d_M_see_80 rfl rfl ?_
        obtain ⟨x25, e26, hf⟩ := bd1_e hf
        refine g_get (pc := 81) (ci := 8) (kk := 0) d_M_see_81 rfl in_M (by decide) wd_938 (gR_spec e26) ?_
        refine g_iload (pc := 84) 0 d_M_see_84 rfl ?_
        refine g_iload_n (pc := 86) 3 d_M_see_86 rfl rfl ?_
        obtain ⟨h27, e28, hf⟩ := bd1_e hf
        refine g_iast (pc := 87) d_M_see_87 e28 ?_
        refine g_aload_n (pc := 88) 2 d_M_see_88 rfl rfl ?_
        obtain ⟨x29, e30, hf⟩ := bd1_e hf
        refine g_get (pc := 89) (ci := 8) (kk := 0) d_M_see_89 rfl in_M (by decide) wd_938 (gR_spec e30) ?_
        refine g_iload (pc := 92) 0 d_M_see_92 rfl ?_
        refine g_iconst (pc := 94) (1 : Int32) d_M_see_94 (by decide) ?_
        refine g_iadd (pc := 95) d_M_see_95 ?_
        refine g_iload_n (pc := 96) 4 d_M_see_96 rfl rfl ?_
        obtain ⟨h31, e32, hf⟩ := bd1_e hf
        refine g_iast (pc := 97) d_M_see_97 e32 ?_
        refine g_aload_n (pc := 98) 2 d_M_see_98 rfl rfl ?_
        obtain ⟨x33, e34, hf⟩ := bd1_e hf
        refine g_get (pc := 99) (ci := 8) (kk := 0) d_M_see_99 rfl in_M (by decide) wd_938 (gR_spec e34) ?_
        refine g_iload (pc := 102) 0 d_M_see_102 rfl ?_
        refine g_iconst (pc := 104) (2 : Int32) d_M_see_104 (by decide) ?_
        refine g_iadd (pc := 105) d_M_see_105 ?_
        refine g_iload_n (pc := 106) 5 d_M_see_106 rfl rfl ?_
        obtain ⟨h35, e36, hf⟩ := bd1_e hf
        refine g_iast (pc := 107) d_M_see_107 e36 ?_
        refine g_aload_n (pc := 108) 2 d_M_see_108 rfl rfl ?_
        obtain ⟨x37, e38, hf⟩ := bd1_e hf
        refine g_get (pc := 109) (ci := 8) (kk := 0) d_M_see_109 rfl in_M (by decide) wd_938 (gR_spec e38) ?_
        refine g_bipush (pc := 112) (41 : Int32) d_M_see_112 (by decide) ?_
        refine g_dup2 (pc := 114) d_M_see_114 rfl rfl ?_
        obtain ⟨x39, e40, hf⟩ := bd1_e hf
        refine g_iald (pc := 115) d_M_see_115 e40 ?_
        refine g_iconst (pc := 116) (1 : Int32) d_M_see_116 (by decide) ?_
        refine g_iadd (pc := 117) d_M_see_117 ?_
        obtain ⟨h41, e42, hf⟩ := bd1_e hf
        refine g_iast (pc := 118) d_M_see_118 e42 ?_
        refine g_aload_n (pc := 119) 2 d_M_see_119 rfl rfl ?_
        obtain ⟨x43, e44, hf⟩ := bd1_e hf
        refine g_get (pc := 120) (ci := 8) (kk := 0) d_M_see_120 rfl in_M (by decide) wd_938 (gR_spec e44) ?_
        refine g_bipush (pc := 123) (41 : Int32) d_M_see_123 (by decide) ?_
        obtain ⟨x45, e46, hf⟩ := bd1_e hf
        refine g_iald (pc := 125) d_M_see_125 e46 ?_
        obtain ⟨rfl, rfl⟩ := ret2 hf
        exact g_iret (pc := 126) rfl d_M_see_126
      · replace hf := (if_pos c47).symm.trans hf
        refine g_bipush (pc := 63) ((-3) : Int32) d_M_see_63 (by decide) ?_
        obtain ⟨rfl, rfl⟩ := ret2 hf
        exact g_iret (pc := 65) rfl d_M_see_65
    · replace hf := (if_pos c48).symm.trans hf
      refine g_lv [] rfl ?_
      exact t_M_see_49  _ _ _  hf
def f_M_see_29  (b0 : Nat) (b1 : Int32) (b2 : Int32) (b3 : Int32) (h : mH) : Option (Int32 × mH) :=
  f_M_see_30  b0 b1 b2 b3 (0 : Int32) h
set_option maxRecDepth 20000 in
theorem t_M_see_29 {sc : Nat × (Nat → Int32)}  (b0 : Nat) (b1 : Int32) (b2 : Int32) (b3 : Int32) (h : mH) (r : Int32) (h' : mH) (hf : f_M_see_29  b0 b1 b2 b3 h = some (r, h')) : G sc y_M_see prog_10_method_71_code 6 (some .int) 2 46 29 [(0, .ref b0), (1, .int b1), (2, .int b2), (3, .int b3)] [] h (some (.int r)) h' := by
  unfold f_M_see_29 at hf
  refine g_iconst (pc := 29) (0 : Int32) d_M_see_29 (by decide) ?_
  refine g_lv [0, 1, 2, 3] rfl ?_
  exact t_M_see_30  _ _ _ _ _ _ _ _  hf
def f_M_see_0  (a0 : Nat) (a1 : Int32) (a2 : Int32) (a3 : Int32) (h : mH) : Option (Int32 × mH) :=
  if a1 = 0 then
    bd1 (kC h a0 8) fun _ =>
    bd2 (f_M_isOne a0 a2 h) fun x12 h10 =>
    f_M_see_30  a0 a1 a2 a3 x12 h10
  else
    if a1 = (1 : Int32) then
      bd1 (kC h a0 8) fun _ =>
      bd2 (f_M_isLaw a0 a2 h) fun x5 h3 =>
      if x5 = 0 then
        f_M_see_29  a0 a1 a2 a3 h3
      else
        f_M_see_30  a0 a1 a2 a3 (1 : Int32) h3
    else
      f_M_see_29  a0 a1 a2 a3 h
set_option maxRecDepth 20000 in
theorem t_M_see_0 {sc : Nat × (Nat → Int32)}  (a0 : Nat) (a1 : Int32) (a2 : Int32) (a3 : Int32) (h : mH) (r : Int32) (h' : mH) (hf : f_M_see_0  a0 a1 a2 a3 h = some (r, h')) : G sc y_M_see prog_10_method_71_code 6 (some .int) 2 46 0 [(0, .ref a0), (1, .int a1), (2, .int a2), (3, .int a3)] [] h (some (.int r)) h' := by
  unfold f_M_see_0 at hf
  refine g_iload_n (pc := 0) 1 d_M_see_0 rfl rfl ?_
  refine g_ifne (pc := 1) 12 d_M_see_1 (by decide) (fun c13 => ?_) (fun c13 => ?_)
  · replace hf := (if_neg c13).symm.trans hf
    refine g_iload_n (pc := 12) 1 d_M_see_12 rfl rfl ?_
    refine g_iconst (pc := 13) (1 : Int32) d_M_see_13 (by decide) ?_
    refine g_icmpne (pc := 14) 29 d_M_see_14 (by decide) (fun c7 => ?_) (fun c7 => ?_)
    · replace hf := (if_neg c7).symm.trans hf
      refine g_lv [0, 1, 2, 3] rfl ?_
      exact t_M_see_29  _ _ _ _ _ _ _  hf
    · replace hf := (if_pos c7).symm.trans hf
      refine g_aload_n (pc := 17) 0 d_M_see_17 rfl rfl ?_
      refine g_iload_n (pc := 18) 2 d_M_see_18 rfl rfl ?_
      obtain ⟨u2, e1, hf⟩ := bd1_e hf
      obtain ⟨x5, h3, e4, hf⟩ := bd2_e hf
      refine g_callV (pc := 19) (ci := 8) [.int a2] (site_of si_M_isLaw (by decide) (by decide)) wd_1136 wd_1138 wp_44 d_M_see_19 rfl e1 (Nat.le_of_ble_eq_true rfl) (fun z => absurd z (by decide)) (fun z => absurd z (by decide)) (fun z => absurd z (by decide)) (c_M_isLaw e4) rfl ?_
      refine g_st [.int x5] rfl ?_
      refine g_ifeq (pc := 22) 29 d_M_see_22 (by decide) (fun c6 => ?_) (fun c6 => ?_)
      · replace hf := (if_pos c6).symm.trans hf
        refine g_lv [0, 1, 2, 3] rfl ?_
        exact t_M_see_29  _ _ _ _ _ _ _  hf
      · replace hf := (if_neg c6).symm.trans hf
        refine g_iconst (pc := 25) (1 : Int32) d_M_see_25 (by decide) ?_
        refine g_goto (pc := 26) 30 d_M_see_26 (by decide) ?_
        refine g_lv [0, 1, 2, 3] rfl ?_
        exact t_M_see_30  _ _ _ _ _ _ _ _  hf
  · replace hf := (if_pos c13).symm.trans hf
    refine g_aload_n (pc := 4) 0 d_M_see_4 rfl rfl ?_
    refine g_iload_n (pc := 5) 2 d_M_see_5 rfl rfl ?_
    obtain ⟨u9, e8, hf⟩ := bd1_e hf
    obtain ⟨x12, h10, e11, hf⟩ := bd2_e hf
    refine g_callV (pc := 6) (ci := 8) [.int a2] (site_of si_M_isOne (by decide) (by decide)) wd_1160 wd_1162 wp_49 d_M_see_6 rfl e8 (Nat.le_of_ble_eq_true rfl) (fun z => absurd z (by decide)) (fun z => absurd z (by decide)) (fun z => absurd z (by decide)) (c_M_isOne e11) rfl ?_
    refine g_st [.int x12] rfl ?_
    refine g_goto (pc := 9) 30 d_M_see_9 (by decide) ?_
    refine g_lv [0, 1, 2, 3] rfl ?_
    exact t_M_see_30  _ _ _ _ _ _ _ _  hf
def f_M_see (a0 : Nat) (a1 : Int32) (a2 : Int32) (a3 : Int32) (h : mH) : Option (Int32 × mH) := f_M_see_0 a0 a1 a2 a3 h
theorem c_M_see {sc : Nat × (Nat → Int32)} {a0 : Nat} {a1 : Int32} {a2 : Int32} {a3 : Int32} {h : mH} {r : Int32} {h' : mH} (hf : f_M_see a0 a1 a2 a3 h = some (r, h')) : MM sc y_M_see prog_10_method_71_code 6 (some .int) 2 46 [.ref a0, .int a1, .int a2, .int a3] h (some (.int r)) h' :=
  mm_of_G (by decide) (Nat.le_of_ble_eq_true rfl) (t_M_see_0 _ _ _ _ _ _ _ hf)
/-! M forget (I)I -/
set_option maxRecDepth 100000 in
theorem dd_M_forget_0 : (decode prog_10_method_72_code 0 = .ok (.iload_n 1, 1)) ∧ (decode prog_10_method_72_code 1 = .ok (.i2l, 1)) ∧ (decode prog_10_method_72_code 2 = .ok (.lconst 0, 1)) ∧ (decode prog_10_method_72_code 3 = .ok (.aload_n 0, 1)) ∧ (decode prog_10_method_72_code 4 = .ok (.getfield 7, 3)) ∧ (decode prog_10_method_72_code 7 = .ok (.bipush 41, 2)) ∧ (decode prog_10_method_72_code 9 = .ok (.iaload, 1)) ∧ (decode prog_10_method_72_code 10 = .ok (.i2l, 1)) ∧ (decode prog_10_method_72_code 11 = .ok (.invokestatic 114, 3)) ∧ (decode prog_10_method_72_code 14 = .ok (.ifCond .eq 13, 3)) ∧ (decode prog_10_method_72_code 17 = .ok (.aload_n 0, 1)) ∧ (decode prog_10_method_72_code 18 = .ok (.bipush 41, 2)) ∧ (decode prog_10_method_72_code 20 = .ok (.iload_n 1, 1)) ∧ (decode prog_10_method_72_code 21 = .ok (.invokevirtual 226, 3)) ∧ (decode prog_10_method_72_code 24 = .ok (.goto 4, 3)) ∧ (decode prog_10_method_72_code 27 = .ok (.iconst (-1), 1)) ∧ (decode prog_10_method_72_code 28 = .ok (.ireturn, 1)) := by
  have h : List.drop 0 prog_10_method_72_code.data.toList = 0x1b :: _ := rfl
  refine ⟨zq_k_n 27 h rfl (zq_o_27 _), ?_⟩
  replace h := zq_nx1 (q := 1) h rfl
  refine ⟨zq_k_n 133 h rfl (zq_o_133 _), ?_⟩
  replace h := zq_nx1 (q := 2) h rfl
  refine ⟨zq_k_n 9 h rfl (zq_o_9 _), ?_⟩
  replace h := zq_nx1 (q := 3) h rfl
  refine ⟨zq_k_n 42 h rfl (zq_o_42 _), ?_⟩
  replace h := zq_nx1 (q := 4) h rfl
  refine ⟨zq_k_u2 180 (fun z => .getfield z) 7 h rfl (zq_o_180 _) (by decide +kernel), ?_⟩
  replace h := zq_nx3 (q := 7) h rfl
  refine ⟨zq_k_s1 16 (fun z => .bipush z) 41 h rfl (zq_o_16 _) (by decide +kernel), ?_⟩
  replace h := zq_nx2 (q := 9) h rfl
  refine ⟨zq_k_n 46 h rfl (zq_o_46 _), ?_⟩
  replace h := zq_nx1 (q := 10) h rfl
  refine ⟨zq_k_n 133 h rfl (zq_o_133 _), ?_⟩
  replace h := zq_nx1 (q := 11) h rfl
  refine ⟨zq_k_u2 184 (fun z => .invokestatic z) 114 h rfl (zq_o_184 _) (by decide +kernel), ?_⟩
  replace h := zq_nx3 (q := 14) h rfl
  refine ⟨zq_k_s2 153 (fun z => .ifCond .eq z) 13 h rfl (zq_o_153 _) (by decide +kernel), ?_⟩
  replace h := zq_nx3 (q := 17) h rfl
  refine ⟨zq_k_n 42 h rfl (zq_o_42 _), ?_⟩
  replace h := zq_nx1 (q := 18) h rfl
  refine ⟨zq_k_s1 16 (fun z => .bipush z) 41 h rfl (zq_o_16 _) (by decide +kernel), ?_⟩
  replace h := zq_nx2 (q := 20) h rfl
  refine ⟨zq_k_n 27 h rfl (zq_o_27 _), ?_⟩
  replace h := zq_nx1 (q := 21) h rfl
  refine ⟨zq_k_u2 182 (fun z => .invokevirtual z) 226 h rfl (zq_o_182 _) (by decide +kernel), ?_⟩
  replace h := zq_nx3 (q := 24) h rfl
  refine ⟨zq_k_s2 167 (fun z => .goto z) 4 h rfl (zq_o_167 _) (by decide +kernel), ?_⟩
  replace h := zq_nx3 (q := 27) h rfl
  refine ⟨zq_k_n 2 h rfl (zq_o_2 _), ?_⟩
  replace h := zq_nx1 (q := 28) h rfl
  exact zq_k_n 172 h rfl (zq_o_172 _)
theorem d_M_forget_0 : decode prog_10_method_72_code 0 = .ok (.iload_n 1, 1) := dd_M_forget_0.1
theorem d_M_forget_1 : decode prog_10_method_72_code 1 = .ok (.i2l, 1) := dd_M_forget_0.2.1
theorem d_M_forget_2 : decode prog_10_method_72_code 2 = .ok (.lconst 0, 1) := dd_M_forget_0.2.2.1
theorem d_M_forget_3 : decode prog_10_method_72_code 3 = .ok (.aload_n 0, 1) := dd_M_forget_0.2.2.2.1
theorem d_M_forget_4 : decode prog_10_method_72_code 4 = .ok (.getfield 7, 3) := dd_M_forget_0.2.2.2.2.1
theorem d_M_forget_7 : decode prog_10_method_72_code 7 = .ok (.bipush 41, 2) := dd_M_forget_0.2.2.2.2.2.1
theorem d_M_forget_9 : decode prog_10_method_72_code 9 = .ok (.iaload, 1) := dd_M_forget_0.2.2.2.2.2.2.1
theorem d_M_forget_10 : decode prog_10_method_72_code 10 = .ok (.i2l, 1) := dd_M_forget_0.2.2.2.2.2.2.2.1
theorem d_M_forget_11 : decode prog_10_method_72_code 11 = .ok (.invokestatic 114, 3) := dd_M_forget_0.2.2.2.2.2.2.2.2.1
theorem d_M_forget_14 : decode prog_10_method_72_code 14 = .ok (.ifCond .eq 13, 3) := dd_M_forget_0.2.2.2.2.2.2.2.2.2.1
theorem d_M_forget_17 : decode prog_10_method_72_code 17 = .ok (.aload_n 0, 1) := dd_M_forget_0.2.2.2.2.2.2.2.2.2.2.1
theorem d_M_forget_18 : decode prog_10_method_72_code 18 = .ok (.bipush 41, 2) := dd_M_forget_0.2.2.2.2.2.2.2.2.2.2.2.1
theorem d_M_forget_20 : decode prog_10_method_72_code 20 = .ok (.iload_n 1, 1) := dd_M_forget_0.2.2.2.2.2.2.2.2.2.2.2.2.1
theorem d_M_forget_21 : decode prog_10_method_72_code 21 = .ok (.invokevirtual 226, 3) := dd_M_forget_0.2.2.2.2.2.2.2.2.2.2.2.2.2.1
theorem d_M_forget_24 : decode prog_10_method_72_code 24 = .ok (.goto 4, 3) := dd_M_forget_0.2.2.2.2.2.2.2.2.2.2.2.2.2.2.1
theorem d_M_forget_27 : decode prog_10_method_72_code 27 = .ok (.iconst (-1), 1) := dd_M_forget_0.2.2.2.2.2.2.2.2.2.2.2.2.2.2.2.1
theorem d_M_forget_28 : decode prog_10_method_72_code 28 = .ok (.ireturn, 1) := dd_M_forget_0.2.2.2.2.2.2.2.2.2.2.2.2.2.2.2.2
def f_M_forget_0  (a0 : Nat) (a1 : Int32) (h : mH) : Option (Int32 × mH) :=
  bd1 (gR h a0 8 0) fun x1 =>
  bd1 (aI h 0 x1 (41 : Int32)) fun x3 =>
  bd2 (f_M_in a1.toInt64 (0 : Int64) x3.toInt64 h) fun x7 h5 =>
  if x7 = 0 then
    some (((-1) : Int32), h5)
  else
    bd1 (kC h5 a0 8) fun _ =>
    bd2 (f_M_becomes a0 (41 : Int32) a1 h5) fun x12 h10 =>
    some (x12, h10)
set_option maxRecDepth 20000 in
theorem t_M_forget_0 {sc : Nat × (Nat → Int32)}  (a0 : Nat) (a1 : Int32) (h : mH) (r : Int32) (h' : mH) (hf : f_M_forget_0  a0 a1 h = some (r, h')) : G sc y_M_forget prog_10_method_72_code 2 (some .int) 1 25 0 [(0, .ref a0), (1, .int a1)] [] h (some (.int r)) h' := by
  unfold f_M_forget_0 at hf
  refine g_iload_n (pc := 0) 1 d_M_forget_0 rfl rfl ?_
  refine g_i2l (pc := 1) d_M_forget_1 ?_
  refine g_lconst (pc := 2) (0 : Int64) d_M_forget_2 (by decide) ?_
  refine g_aload_n (pc := 3) 0 d_M_forget_3 rfl rfl ?_
  obtain ⟨x1, e2, hf⟩ := bd1_e hf
  refine g_get (pc := 4) (ci := 8) (kk := 0) d_M_forget_4 rfl in_M (by decide) wd_938 (gR_spec e2) ?_
  refine g_bipush (pc := 7) (41 : Int32) d_M_forget_7 (by decide) ?_
  obtain ⟨x3, e4, hf⟩ := bd1_e hf
  refine g_iald (pc := 9) d_M_forget_9 e4 ?_
  refine g_i2l (pc := 10) d_M_forget_10 ?_
  obtain ⟨x7, h5, e6, hf⟩ := bd2_e hf
  refine g_callS (pc := 11) [.long a1.toInt64, .long (0 : Int64), .long x3.toInt64] (site_of si_M_in (by decide) (by decide)) wd_1061 wd_1062 d_M_forget_11 (Nat.le_of_ble_eq_true rfl) (fun z => absurd z (by decide)) (fun z => absurd z (by decide)) (fun z => absurd z (by decide)) (c_M_in e6) rfl ?_
  refine g_st [.int x7] rfl ?_
  refine g_ifeq (pc := 14) 27 d_M_forget_14 (by decide) (fun c13 => ?_) (fun c13 => ?_)
  · replace hf := (if_pos c13).symm.trans hf
    refine g_iconst (pc := 27) ((-1) : Int32) d_M_forget_27 (by decide) ?_
    obtain ⟨rfl, rfl⟩ := ret2 hf
    exact g_iret (pc := 28) rfl d_M_forget_28
  · replace hf := (if_neg c13).symm.trans hf
    refine g_aload_n (pc := 17) 0 d_M_forget_17 rfl rfl ?_
    refine g_bipush (pc := 18) (41 : Int32) d_M_forget_18 (by decide) ?_
    refine g_iload_n (pc := 20) 1 d_M_forget_20 rfl rfl ?_
    obtain ⟨u9, e8, hf⟩ := bd1_e hf
    obtain ⟨x12, h10, e11, hf⟩ := bd2_e hf
    refine g_callV (pc := 21) (ci := 8) [.int (41 : Int32), .int a1] (site_of si_M_becomes (by decide) (by decide)) wd_1192 wd_1194 wp_54 d_M_forget_21 rfl e8 (Nat.le_of_ble_eq_true rfl) (fun z => absurd z (by decide)) (fun z => absurd z (by decide)) (fun z => absurd z (by decide)) (c_M_becomes e11) rfl ?_
    refine g_st [.int x12] rfl ?_
    refine g_goto (pc := 24) 28 d_M_forget_24 (by decide) ?_
    obtain ⟨rfl, rfl⟩ := ret2 hf
    exact g_iret (pc := 28) rfl d_M_forget_28
def f_M_forget (a0 : Nat) (a1 : Int32) (h : mH) : Option (Int32 × mH) := f_M_forget_0 a0 a1 h
theorem c_M_forget {sc : Nat × (Nat → Int32)} {a0 : Nat} {a1 : Int32} {h : mH} {r : Int32} {h' : mH} (hf : f_M_forget a0 a1 h = some (r, h')) : MM sc y_M_forget prog_10_method_72_code 2 (some .int) 1 25 [.ref a0, .int a1] h (some (.int r)) h' :=
  mm_of_G (by decide) (Nat.le_of_ble_eq_true rfl) (t_M_forget_0 _ _ _ _ _ hf)
/-! M mostOf (II)I -/
set_option maxRecDepth 100000 in
theorem dd_M_mostOf_0 : (decode prog_10_method_74_code 0 = .ok (.iload_n 1, 1)) ∧ (decode prog_10_method_74_code 1 = .ok (.aload_n 0, 1)) ∧ (decode prog_10_method_74_code 2 = .ok (.getfield 109, 3)) ∧ (decode prog_10_method_74_code 5 = .ok (.if_icmp .ge 28, 3)) ∧ (decode prog_10_method_74_code 8 = .ok (.aload_n 0, 1)) ∧ (decode prog_10_method_74_code 9 = .ok (.getfield 7, 3)) ∧ (decode prog_10_method_74_code 12 = .ok (.bipush 18, 2)) ∧ (decode prog_10_method_74_code 14 = .ok (.iload_n 1, 1)) ∧ (decode prog_10_method_74_code 15 = .ok (.iadd, 1)) ∧ (decode prog_10_method_74_code 16 = .ok (.iaload, 1)) ∧ (decode prog_10_method_74_code 17 = .ok (.iload_n 2, 1)) ∧ (decode prog_10_method_74_code 18 = .ok (.ishr, 1)) ∧ (decode prog_10_method_74_code 19 = .ok (.iconst 1, 1)) ∧ (decode prog_10_method_74_code 20 = .ok (.iand, 1)) ∧ (decode prog_10_method_74_code 21 = .ok (.ifCond .ne 12, 3)) ∧ (decode prog_10_method_74_code 24 = .ok (.aload_n 0, 1)) ∧ (decode prog_10_method_74_code 25 = .ok (.getfield 17, 3)) ∧ (decode prog_10_method_74_code 28 = .ok (.iload_n 2, 1)) ∧ (decode prog_10_method_74_code 29 = .ok (.iaload, 1)) ∧ (decode prog_10_method_74_code 30 = .ok (.goto 4, 3)) ∧ (decode prog_10_method_74_code 33 = .ok (.iconst 0, 1)) ∧ (decode prog_10_method_74_code 34 = .ok (.ireturn, 1)) := by
  have h : List.drop 0 prog_10_method_74_code.data.toList = 0x1b :: _ := rfl
  refine ⟨zq_k_n 27 h rfl (zq_o_27 _), ?_⟩
  replace h := zq_nx1 (q := 1) h rfl
  refine ⟨zq_k_n 42 h rfl (zq_o_42 _), ?_⟩
  replace h := zq_nx1 (q := 2) h rfl
  refine ⟨zq_k_u2 180 (fun z => .getfield z) 109 h rfl (zq_o_180 _) (by decide +kernel), ?_⟩
  replace h := zq_nx3 (q := 5) h rfl
  refine ⟨zq_k_s2 162 (fun z => .if_icmp .ge z) 28 h rfl (zq_o_162 _) (by decide +kernel), ?_⟩
  replace h := zq_nx3 (q := 8) h rfl
  refine ⟨zq_k_n 42 h rfl (zq_o_42 _), ?_⟩
  replace h := zq_nx1 (q := 9) h rfl
  refine ⟨zq_k_u2 180 (fun z => .getfield z) 7 h rfl (zq_o_180 _) (by decide +kernel), ?_⟩
  replace h := zq_nx3 (q := 12) h rfl
  refine ⟨zq_k_s1 16 (fun z => .bipush z) 18 h rfl (zq_o_16 _) (by decide +kernel), ?_⟩
  replace h := zq_nx2 (q := 14) h rfl
  refine ⟨zq_k_n 27 h rfl (zq_o_27 _), ?_⟩
  replace h := zq_nx1 (q := 15) h rfl
  refine ⟨zq_k_n 96 h rfl (zq_o_96 _), ?_⟩
  replace h := zq_nx1 (q := 16) h rfl
  refine ⟨zq_k_n 46 h rfl (zq_o_46 _), ?_⟩
  replace h := zq_nx1 (q := 17) h rfl
  refine ⟨zq_k_n 28 h rfl (zq_o_28 _), ?_⟩
  replace h := zq_nx1 (q := 18) h rfl
  refine ⟨zq_k_n 122 h rfl (zq_o_122 _), ?_⟩
  replace h := zq_nx1 (q := 19) h rfl
  refine ⟨zq_k_n 4 h rfl (zq_o_4 _), ?_⟩
  replace h := zq_nx1 (q := 20) h rfl
  refine ⟨zq_k_n 126 h rfl (zq_o_126 _), ?_⟩
  replace h := zq_nx1 (q := 21) h rfl
  refine ⟨zq_k_s2 154 (fun z => .ifCond .ne z) 12 h rfl (zq_o_154 _) (by decide +kernel), ?_⟩
  replace h := zq_nx3 (q := 24) h rfl
  refine ⟨zq_k_n 42 h rfl (zq_o_42 _), ?_⟩
  replace h := zq_nx1 (q := 25) h rfl
  refine ⟨zq_k_u2 180 (fun z => .getfield z) 17 h rfl (zq_o_180 _) (by decide +kernel), ?_⟩
  replace h := zq_nx3 (q := 28) h rfl
  refine ⟨zq_k_n 28 h rfl (zq_o_28 _), ?_⟩
  replace h := zq_nx1 (q := 29) h rfl
  refine ⟨zq_k_n 46 h rfl (zq_o_46 _), ?_⟩
  replace h := zq_nx1 (q := 30) h rfl
  refine ⟨zq_k_s2 167 (fun z => .goto z) 4 h rfl (zq_o_167 _) (by decide +kernel), ?_⟩
  replace h := zq_nx3 (q := 33) h rfl
  refine ⟨zq_k_n 3 h rfl (zq_o_3 _), ?_⟩
  replace h := zq_nx1 (q := 34) h rfl
  exact zq_k_n 172 h rfl (zq_o_172 _)
theorem d_M_mostOf_0 : decode prog_10_method_74_code 0 = .ok (.iload_n 1, 1) := dd_M_mostOf_0.1
theorem d_M_mostOf_1 : decode prog_10_method_74_code 1 = .ok (.aload_n 0, 1) := dd_M_mostOf_0.2.1
theorem d_M_mostOf_2 : decode prog_10_method_74_code 2 = .ok (.getfield 109, 3) := dd_M_mostOf_0.2.2.1
theorem d_M_mostOf_5 : decode prog_10_method_74_code 5 = .ok (.if_icmp .ge 28, 3) := dd_M_mostOf_0.2.2.2.1
theorem d_M_mostOf_8 : decode prog_10_method_74_code 8 = .ok (.aload_n 0, 1) := dd_M_mostOf_0.2.2.2.2.1
theorem d_M_mostOf_9 : decode prog_10_method_74_code 9 = .ok (.getfield 7, 3) := dd_M_mostOf_0.2.2.2.2.2.1
theorem d_M_mostOf_12 : decode prog_10_method_74_code 12 = .ok (.bipush 18, 2) := dd_M_mostOf_0.2.2.2.2.2.2.1
theorem d_M_mostOf_14 : decode prog_10_method_74_code 14 = .ok (.iload_n 1, 1) := dd_M_mostOf_0.2.2.2.2.2.2.2.1
theorem d_M_mostOf_15 : decode prog_10_method_74_code 15 = .ok (.iadd, 1) := dd_M_mostOf_0.2.2.2.2.2.2.2.2.1
theorem d_M_mostOf_16 : decode prog_10_method_74_code 16 = .ok (.iaload, 1) := dd_M_mostOf_0.2.2.2.2.2.2.2.2.2.1
theorem d_M_mostOf_17 : decode prog_10_method_74_code 17 = .ok (.iload_n 2, 1) := dd_M_mostOf_0.2.2.2.2.2.2.2.2.2.2.1
theorem d_M_mostOf_18 : decode prog_10_method_74_code 18 = .ok (.ishr, 1) := dd_M_mostOf_0.2.2.2.2.2.2.2.2.2.2.2.1
theorem d_M_mostOf_19 : decode prog_10_method_74_code 19 = .ok (.iconst 1, 1) := dd_M_mostOf_0.2.2.2.2.2.2.2.2.2.2.2.2.1
theorem d_M_mostOf_20 : decode prog_10_method_74_code 20 = .ok (.iand, 1) := dd_M_mostOf_0.2.2.2.2.2.2.2.2.2.2.2.2.2.1
theorem d_M_mostOf_21 : decode prog_10_method_74_code 21 = .ok (.ifCond .ne 12, 3) := dd_M_mostOf_0.2.2.2.2.2.2.2.2.2.2.2.2.2.2.1
theorem d_M_mostOf_24 : decode prog_10_method_74_code 24 = .ok (.aload_n 0, 1) := dd_M_mostOf_0.2.2.2.2.2.2.2.2.2.2.2.2.2.2.2.1
theorem d_M_mostOf_25 : decode prog_10_method_74_code 25 = .ok (.getfield 17, 3) := dd_M_mostOf_0.2.2.2.2.2.2.2.2.2.2.2.2.2.2.2.2.1
theorem d_M_mostOf_28 : decode prog_10_method_74_code 28 = .ok (.iload_n 2, 1) := dd_M_mostOf_0.2.2.2.2.2.2.2.2.2.2.2.2.2.2.2.2.2.1
theorem d_M_mostOf_29 : decode prog_10_method_74_code 29 = .ok (.iaload, 1) := dd_M_mostOf_0.2.2.2.2.2.2.2.2.2.2.2.2.2.2.2.2.2.2.1
theorem d_M_mostOf_30 : decode prog_10_method_74_code 30 = .ok (.goto 4, 3) := dd_M_mostOf_0.2.2.2.2.2.2.2.2.2.2.2.2.2.2.2.2.2.2.2.1
theorem d_M_mostOf_33 : decode prog_10_method_74_code 33 = .ok (.iconst 0, 1) := dd_M_mostOf_0.2.2.2.2.2.2.2.2.2.2.2.2.2.2.2.2.2.2.2.2.1
theorem d_M_mostOf_34 : decode prog_10_method_74_code 34 = .ok (.ireturn, 1) := dd_M_mostOf_0.2.2.2.2.2.2.2.2.2.2.2.2.2.2.2.2.2.2.2.2.2
def f_M_mostOf_33   (h : mH) : Option (Int32 × mH) :=
  some ((0 : Int32), h)
set_option maxRecDepth 20000 in
theorem t_M_mostOf_33 {sc : Nat × (Nat → Int32)}   (h : mH) (r : Int32) (h' : mH) (hf : f_M_mostOf_33   h = some (r, h')) : G sc y_M_mostOf prog_10_method_74_code 3 (some .int) 0 0 33 [] [] h (some (.int r)) h' := by
  unfold f_M_mostOf_33 at hf
  refine g_iconst (pc := 33) (0 : Int32) d_M_mostOf_33 (by decide) ?_
  obtain ⟨rfl, rfl⟩ := ret2 hf
  exact g_iret (pc := 34) rfl d_M_mostOf_34
def f_M_mostOf_0  (a0 : Nat) (a1 : Int32) (a2 : Int32) (h : mH) : Option (Int32 × mH) :=
  bd1 (gI h a0 8 3) fun x1 =>
  if x1 ≤ a1 then
    f_M_mostOf_33  h
  else
    bd1 (gR h a0 8 0) fun x3 =>
    bd1 (aI h 0 x3 ((18 : Int32) + a1)) fun x5 =>
    if ((x5 >>> (a2 &&& 31)) &&& (1 : Int32)) = 0 then
      bd1 (gR h a0 8 4) fun x7 =>
      bd1 (aI h 0 x7 a2) fun x9 =>
      some (x9, h)
    else
      f_M_mostOf_33  h
set_option maxRecDepth 20000 in
theorem t_M_mostOf_0 {sc : Nat × (Nat → Int32)}  (a0 : Nat) (a1 : Int32) (a2 : Int32) (h : mH) (r : Int32) (h' : mH) (hf : f_M_mostOf_0  a0 a1 a2 h = some (r, h')) : G sc y_M_mostOf prog_10_method_74_code 3 (some .int) 0 0 0 [(0, .ref a0), (1, .int a1), (2, .int a2)] [] h (some (.int r)) h' := by
  unfold f_M_mostOf_0 at hf
  refine g_iload_n (pc := 0) 1 d_M_mostOf_0 rfl rfl ?_
  refine g_aload_n (pc := 1) 0 d_M_mostOf_1 rfl rfl ?_
  obtain ⟨x1, e2, hf⟩ := bd1_e hf
  refine g_get (pc := 2) (ci := 8) (kk := 3) d_M_mostOf_2 rfl in_M (by decide) wd_941 (gI_spec e2) ?_
  refine g_icmpge (pc := 5) 33 d_M_mostOf_5 (by decide) (fun c12 => ?_) (fun c12 => ?_)
  · replace hf := (if_pos c12).symm.trans hf
    refine g_lv [] rfl ?_
    exact t_M_mostOf_33  _ _ _  hf
  · replace hf := (if_neg c12).symm.trans hf
    refine g_aload_n (pc := 8) 0 d_M_mostOf_8 rfl rfl ?_
    obtain ⟨x3, e4, hf⟩ := bd1_e hf
    refine g_get (pc := 9) (ci := 8) (kk := 0) d_M_mostOf_9 rfl in_M (by decide) wd_938 (gR_spec e4) ?_
    refine g_bipush (pc := 12) (18 : Int32) d_M_mostOf_12 (by decide) ?_
    refine g_iload_n (pc := 14) 1 d_M_mostOf_14 rfl rfl ?_
    refine g_iadd (pc := 15) d_M_mostOf_15 ?_
    obtain ⟨x5, e6, hf⟩ := bd1_e hf
    refine g_iald (pc := 16) d_M_mostOf_16 e6 ?_
    refine g_iload_n (pc := 17) 2 d_M_mostOf_17 rfl rfl ?_
    refine g_ishr (pc := 18) d_M_mostOf_18 ?_
    refine g_iconst (pc := 19) (1 : Int32) d_M_mostOf_19 (by decide) ?_
    refine g_iand (pc := 20) d_M_mostOf_20 ?_
    refine g_ifne (pc := 21) 33 d_M_mostOf_21 (by decide) (fun c11 => ?_) (fun c11 => ?_)
    · replace hf := (if_neg c11).symm.trans hf
      refine g_lv [] rfl ?_
      exact t_M_mostOf_33  _ _ _  hf
    · replace hf := (if_pos c11).symm.trans hf
      refine g_aload_n (pc := 24) 0 d_M_mostOf_24 rfl rfl ?_
      obtain ⟨x7, e8, hf⟩ := bd1_e hf
      refine g_get (pc := 25) (ci := 8) (kk := 4) d_M_mostOf_25 rfl in_M (by decide) wd_942 (gR_spec e8) ?_
      refine g_iload_n (pc := 28) 2 d_M_mostOf_28 rfl rfl ?_
      obtain ⟨x9, e10, hf⟩ := bd1_e hf
      refine g_iald (pc := 29) d_M_mostOf_29 e10 ?_
      refine g_goto (pc := 30) 34 d_M_mostOf_30 (by decide) ?_
      obtain ⟨rfl, rfl⟩ := ret2 hf
      exact g_iret (pc := 34) rfl d_M_mostOf_34
def f_M_mostOf (a0 : Nat) (a1 : Int32) (a2 : Int32) (h : mH) : Option (Int32 × mH) := f_M_mostOf_0 a0 a1 a2 h
theorem c_M_mostOf {sc : Nat × (Nat → Int32)} {a0 : Nat} {a1 : Int32} {a2 : Int32} {h : mH} {r : Int32} {h' : mH} (hf : f_M_mostOf a0 a1 a2 h = some (r, h')) : MM sc y_M_mostOf prog_10_method_74_code 3 (some .int) 0 0 [.ref a0, .int a1, .int a2] h (some (.int r)) h' :=
  mm_of_G (by decide) (Nat.le_of_ble_eq_true rfl) (t_M_mostOf_0 _ _ _ _ _ _ hf)
/-! M isSo (III)Z -/
set_option maxRecDepth 100000 in
theorem dd_M_isSo_0 : (decode prog_10_method_73_code 0 = .ok (.iconst 1, 1)) ∧ (decode prog_10_method_73_code 1 = .ok (.istore 4, 2)) ∧ (decode prog_10_method_73_code 3 = .ok (.iconst 0, 1)) ∧ (decode prog_10_method_73_code 4 = .ok (.istore 5, 2)) ∧ (decode prog_10_method_73_code 6 = .ok (.iload 5, 2)) ∧ (decode prog_10_method_73_code 8 = .ok (.aload_n 0, 1)) ∧ (decode prog_10_method_73_code 9 = .ok (.getfield 7, 3)) ∧ (decode prog_10_method_73_code 12 = .ok (.bipush 41, 2)) ∧ (decode prog_10_method_73_code 14 = .ok (.iaload, 1)) ∧ (decode prog_10_method_73_code 15 = .ok (.if_icmp .ge 67, 3)) ∧ (decode prog_10_method_73_code 18 = .ok (.bipush 42, 2)) ∧ (decode prog_10_method_73_code 20 = .ok (.iconst 3, 1)) ∧ (decode prog_10_method_73_code 21 = .ok (.iload 5, 2)) ∧ (decode prog_10_method_73_code 23 = .ok (.imul, 1)) ∧ (decode prog_10_method_73_code 24 = .ok (.iadd, 1)) ∧ (decode prog_10_method_73_code 25 = .ok (.istore 6, 2)) ∧ (decode prog_10_method_73_code 27 = .ok (.iload 4, 2)) ∧ (decode prog_10_method_73_code 29 = .ok (.ifCond .eq 44, 3)) ∧ (decode prog_10_method_73_code 32 = .ok (.aload_n 0, 1)) ∧ (decode prog_10_method_73_code 33 = .ok (.getfield 7, 3)) ∧ (decode prog_10_method_73_code 36 = .ok (.iload 6, 2)) ∧ (decode prog_10_method_73_code 38 = .ok (.iaload, 1)) ∧ (decode prog_10_method_73_code 39 = .ok (.iload_n 1, 1)) ∧ (decode prog_10_method_73_code 40 = .ok (.if_icmp .ne 29, 3)) := by
  have h : List.drop 0 prog_10_method_73_code.data.toList = 0x04 :: _ := rfl
  refine ⟨zq_k_n 4 h rfl (zq_o_4 _), ?_⟩
  replace h := zq_nx1 (q := 1) h rfl
  refine ⟨zq_k_u1 54 (fun z => .istore z) 4 h rfl (zq_o_54 _) (by decide +kernel), ?_⟩
  replace h := zq_nx2 (q := 3) h rfl
  refine ⟨zq_k_n 3 h rfl (zq_o_3 _), ?_⟩
  replace h := zq_nx1 (q := 4) h rfl
  refine ⟨zq_k_u1 54 (fun z => .istore z) 5 h rfl (zq_o_54 _) (by decide +kernel), ?_⟩
  replace h := zq_nx2 (q := 6) h rfl
  refine ⟨zq_k_u1 21 (fun z => .iload z) 5 h rfl (zq_o_21 _) (by decide +kernel), ?_⟩
  replace h := zq_nx2 (q := 8) h rfl
  refine ⟨zq_k_n 42 h rfl (zq_o_42 _), ?_⟩
  replace h := zq_nx1 (q := 9) h rfl
  refine ⟨zq_k_u2 180 (fun z => .getfield z) 7 h rfl (zq_o_180 _) (by decide +kernel), ?_⟩
  replace h := zq_nx3 (q := 12) h rfl
  refine ⟨zq_k_s1 16 (fun z => .bipush z) 41 h rfl (zq_o_16 _) (by decide +kernel), ?_⟩
  replace h := zq_nx2 (q := 14) h rfl
  refine ⟨zq_k_n 46 h rfl (zq_o_46 _), ?_⟩
  replace h := zq_nx1 (q := 15) h rfl
  refine ⟨zq_k_s2 162 (fun z => .if_icmp .ge z) 67 h rfl (zq_o_162 _) (by decide +kernel), ?_⟩
  replace h := zq_nx3 (q := 18) h rfl
  refine ⟨zq_k_s1 16 (fun z => .bipush z) 42 h rfl (zq_o_16 _) (by decide +kernel), ?_⟩
  replace h := zq_nx2 (q := 20) h rfl
  refine ⟨zq_k_n 6 h rfl (zq_o_6 _), ?_⟩
  replace h := zq_nx1 (q := 21) h rfl
  refine ⟨zq_k_u1 21 (fun z => .iload z) 5 h rfl (zq_o_21 _) (by decide +kernel), ?_⟩
  replace h := zq_nx2 (q := 23) h rfl
  refine ⟨zq_k_n 104 h rfl (zq_o_104 _), ?_⟩
  replace h := zq_nx1 (q := 24) h rfl
  refine ⟨zq_k_n 96 h rfl (zq_o_96 _), ?_⟩
  replace h := zq_nx1 (q := 25) h rfl
  refine ⟨zq_k_u1 54 (fun z => .istore z) 6 h rfl (zq_o_54 _) (by decide +kernel), ?_⟩
  replace h := zq_nx2 (q := 27) h rfl
  refine ⟨zq_k_u1 21 (fun z => .iload z) 4 h rfl (zq_o_21 _) (by decide +kernel), ?_⟩
  replace h := zq_nx2 (q := 29) h rfl
  refine ⟨zq_k_s2 153 (fun z => .ifCond .eq z) 44 h rfl (zq_o_153 _) (by decide +kernel), ?_⟩
  replace h := zq_nx3 (q := 32) h rfl
  refine ⟨zq_k_n 42 h rfl (zq_o_42 _), ?_⟩
  replace h := zq_nx1 (q := 33) h rfl
  refine ⟨zq_k_u2 180 (fun z => .getfield z) 7 h rfl (zq_o_180 _) (by decide +kernel), ?_⟩
  replace h := zq_nx3 (q := 36) h rfl
  refine ⟨zq_k_u1 21 (fun z => .iload z) 6 h rfl (zq_o_21 _) (by decide +kernel), ?_⟩
  replace h := zq_nx2 (q := 38) h rfl
  refine ⟨zq_k_n 46 h rfl (zq_o_46 _), ?_⟩
  replace h := zq_nx1 (q := 39) h rfl
  refine ⟨zq_k_n 27 h rfl (zq_o_27 _), ?_⟩
  replace h := zq_nx1 (q := 40) h rfl
  exact zq_k_s2 160 (fun z => .if_icmp .ne z) 29 h rfl (zq_o_160 _) (by decide +kernel)
theorem d_M_isSo_0 : decode prog_10_method_73_code 0 = .ok (.iconst 1, 1) := dd_M_isSo_0.1
theorem d_M_isSo_1 : decode prog_10_method_73_code 1 = .ok (.istore 4, 2) := dd_M_isSo_0.2.1
theorem d_M_isSo_3 : decode prog_10_method_73_code 3 = .ok (.iconst 0, 1) := dd_M_isSo_0.2.2.1
theorem d_M_isSo_4 : decode prog_10_method_73_code 4 = .ok (.istore 5, 2) := dd_M_isSo_0.2.2.2.1
theorem d_M_isSo_6 : decode prog_10_method_73_code 6 = .ok (.iload 5, 2) := dd_M_isSo_0.2.2.2.2.1
theorem d_M_isSo_8 : decode prog_10_method_73_code 8 = .ok (.aload_n 0, 1) := dd_M_isSo_0.2.2.2.2.2.1
theorem d_M_isSo_9 : decode prog_10_method_73_code 9 = .ok (.getfield 7, 3) := dd_M_isSo_0.2.2.2.2.2.2.1
theorem d_M_isSo_12 : decode prog_10_method_73_code 12 = .ok (.bipush 41, 2) := dd_M_isSo_0.2.2.2.2.2.2.2.1
theorem d_M_isSo_14 : decode prog_10_method_73_code 14 = .ok (.iaload, 1) := dd_M_isSo_0.2.2.2.2.2.2.2.2.1
theorem d_M_isSo_15 : decode prog_10_method_73_code 15 = .ok (.if_icmp .ge 67, 3) := dd_M_isSo_0.2.2.2.2.2.2.2.2.2.1
theorem d_M_isSo_18 : decode prog_10_method_73_code 18 = .ok (.bipush 42, 2) := dd_M_isSo_0.2.2.2.2.2.2.2.2.2.2.1
theorem d_M_isSo_20 : decode prog_10_method_73_code 20 = .ok (.iconst 3, 1) := dd_M_isSo_0.2.2.2.2.2.2.2.2.2.2.2.1
theorem d_M_isSo_21 : decode prog_10_method_73_code 21 = .ok (.iload 5, 2) := dd_M_isSo_0.2.2.2.2.2.2.2.2.2.2.2.2.1
theorem d_M_isSo_23 : decode prog_10_method_73_code 23 = .ok (.imul, 1) := dd_M_isSo_0.2.2.2.2.2.2.2.2.2.2.2.2.2.1
theorem d_M_isSo_24 : decode prog_10_method_73_code 24 = .ok (.iadd, 1) := dd_M_isSo_0.2.2.2.2.2.2.2.2.2.2.2.2.2.2.1
theorem d_M_isSo_25 : decode prog_10_method_73_code 25 = .ok (.istore 6, 2) := dd_M_isSo_0.2.2.2.2.2.2.2.2.2.2.2.2.2.2.2.1
theorem d_M_isSo_27 : decode prog_10_method_73_code 27 = .ok (.iload 4, 2) := dd_M_isSo_0.2.2.2.2.2.2.2.2.2.2.2.2.2.2.2.2.1
theorem d_M_isSo_29 : decode prog_10_method_73_code 29 = .ok (.ifCond .eq 44, 3) := dd_M_isSo_0.2.2.2.2.2.2.2.2.2.2.2.2.2.2.2.2.2.1
theorem d_M_isSo_32 : decode prog_10_method_73_code 32 = .ok (.aload_n 0, 1) := dd_M_isSo_0.2.2.2.2.2.2.2.2.2.2.2.2.2.2.2.2.2.2.1
theorem d_M_isSo_33 : decode prog_10_method_73_code 33 = .ok (.getfield 7, 3) := dd_M_isSo_0.2.2.2.2.2.2.2.2.2.2.2.2.2.2.2.2.2.2.2.1
theorem d_M_isSo_36 : decode prog_10_method_73_code 36 = .ok (.iload 6, 2) := dd_M_isSo_0.2.2.2.2.2.2.2.2.2.2.2.2.2.2.2.2.2.2.2.2.1
theorem d_M_isSo_38 : decode prog_10_method_73_code 38 = .ok (.iaload, 1) := dd_M_isSo_0.2.2.2.2.2.2.2.2.2.2.2.2.2.2.2.2.2.2.2.2.2.1
theorem d_M_isSo_39 : decode prog_10_method_73_code 39 = .ok (.iload_n 1, 1) := dd_M_isSo_0.2.2.2.2.2.2.2.2.2.2.2.2.2.2.2.2.2.2.2.2.2.2.1
theorem d_M_isSo_40 : decode prog_10_method_73_code 40 = .ok (.if_icmp .ne 29, 3) := dd_M_isSo_0.2.2.2.2.2.2.2.2.2.2.2.2.2.2.2.2.2.2.2.2.2.2.2
set_option maxRecDepth 100000 in
theorem dd_M_isSo_43 : (decode prog_10_method_73_code 43 = .ok (.aload_n 0, 1)) ∧ (decode prog_10_method_73_code 44 = .ok (.getfield 7, 3)) ∧ (decode prog_10_method_73_code 47 = .ok (.iload 6, 2)) ∧ (decode prog_10_method_73_code 49 = .ok (.iconst 1, 1)) ∧ (decode prog_10_method_73_code 50 = .ok (.iadd, 1)) ∧ (decode prog_10_method_73_code 51 = .ok (.iaload, 1)) ∧ (decode prog_10_method_73_code 52 = .ok (.iload_n 2, 1)) ∧ (decode prog_10_method_73_code 53 = .ok (.if_icmp .ne 16, 3)) ∧ (decode prog_10_method_73_code 56 = .ok (.aload_n 0, 1)) ∧ (decode prog_10_method_73_code 57 = .ok (.getfield 7, 3)) ∧ (decode prog_10_method_73_code 60 = .ok (.iload 6, 2)) ∧ (decode prog_10_method_73_code 62 = .ok (.iconst 2, 1)) ∧ (decode prog_10_method_73_code 63 = .ok (.iadd, 1)) ∧ (decode prog_10_method_73_code 64 = .ok (.iaload, 1)) ∧ (decode prog_10_method_73_code 65 = .ok (.iload_n 3, 1)) ∧ (decode prog_10_method_73_code 66 = .ok (.if_icmp .ne 7, 3)) ∧ (decode prog_10_method_73_code 69 = .ok (.iconst 1, 1)) ∧ (decode prog_10_method_73_code 70 = .ok (.goto 4, 3)) ∧ (decode prog_10_method_73_code 73 = .ok (.iconst 0, 1)) ∧ (decode prog_10_method_73_code 74 = .ok (.istore 4, 2)) ∧ (decode prog_10_method_73_code 76 = .ok (.iinc 5 1, 3)) ∧ (decode prog_10_method_73_code 79 = .ok (.goto (-73), 3)) ∧ (decode prog_10_method_73_code 82 = .ok (.iload 4, 2)) ∧ (decode prog_10_method_73_code 84 = .ok (.ireturn, 1)) := by
  have h : List.drop 43 prog_10_method_73_code.data.toList = 0x2a :: _ := rfl
  refine ⟨zq_k_n 42 h rfl (zq_o_42 _), ?_⟩
  replace h := zq_nx1 (q := 44) h rfl
  refine ⟨zq_k_u2 180 (fun z => .getfield z) 7 h rfl (zq_o_180 _) (by decide +kernel), ?_⟩
  replace h := zq_nx3 (q := 47) h rfl
  refine ⟨zq_k_u1 21 (fun z => .iload z) 6 h rfl (zq_o_21 _) (by decide +kernel), ?_⟩
  replace h := zq_nx2 (q := 49) h rfl
  refine ⟨zq_k_n 4 h rfl (zq_o_4 _), ?_⟩
  replace h := zq_nx1 (q := 50) h rfl
  refine ⟨zq_k_n 96 h rfl (zq_o_96 _), ?_⟩
  replace h := zq_nx1 (q := 51) h rfl
  refine ⟨zq_k_n 46 h rfl (zq_o_46 _), ?_⟩
  replace h := zq_nx1 (q := 52) h rfl
  refine ⟨zq_k_n 28 h rfl (zq_o_28 _), ?_⟩
  replace h := zq_nx1 (q := 53) h rfl
  refine ⟨zq_k_s2 160 (fun z => .if_icmp .ne z) 16 h rfl (zq_o_160 _) (by decide +kernel), ?_⟩
  replace h := zq_nx3 (q := 56) h rfl
  refine ⟨zq_k_n 42 h rfl (zq_o_42 _), ?_⟩
  replace h := zq_nx1 (q := 57) h rfl
  refine ⟨zq_k_u2 180 (fun z => .getfield z) 7 h rfl (zq_o_180 _) (by decide +kernel), ?_⟩
  replace h := zq_nx3 (q := 60) h rfl
  refine ⟨zq_k_u1 21 (fun z => .iload z) 6 h rfl (zq_o_21 _) (by decide +kernel), ?_⟩
  replace h := zq_nx2 (q := 62) h rfl
  refine ⟨zq_k_n 5 h rfl (zq_o_5 _), ?_⟩
  replace h := zq_nx1 (q := 63) h rfl
  refine ⟨zq_k_n 96 h rfl (zq_o_96 _), ?_⟩
  replace h := zq_nx1 (q := 64) h rfl
  refine ⟨zq_k_n 46 h rfl (zq_o_46 _), ?_⟩
  replace h := zq_nx1 (q := 65) h rfl
  refine ⟨zq_k_n 29 h rfl (zq_o_29 _), ?_⟩
  replace h := zq_nx1 (q := 66) h rfl
  refine ⟨zq_k_s2 160 (fun z => .if_icmp .ne z) 7 h rfl (zq_o_160 _) (by decide +kernel), ?_⟩
  replace h := zq_nx3 (q := 69) h rfl
  refine ⟨zq_k_n 4 h rfl (zq_o_4 _), ?_⟩
  replace h := zq_nx1 (q := 70) h rfl
  refine ⟨zq_k_s2 167 (fun z => .goto z) 4 h rfl (zq_o_167 _) (by decide +kernel), ?_⟩
  replace h := zq_nx3 (q := 73) h rfl
  refine ⟨zq_k_n 3 h rfl (zq_o_3 _), ?_⟩
  replace h := zq_nx1 (q := 74) h rfl
  refine ⟨zq_k_u1 54 (fun z => .istore z) 4 h rfl (zq_o_54 _) (by decide +kernel), ?_⟩
  replace h := zq_nx2 (q := 76) h rfl
  refine ⟨zq_k_iinc 5 1 h rfl (zq_o_132 _) (by decide +kernel) (by decide +kernel), ?_⟩
  replace h := zq_nx3 (q := 79) h rfl
  refine ⟨zq_k_s2 167 (fun z => .goto z) (-73) h rfl (zq_o_167 _) (by decide +kernel), ?_⟩
  replace h := zq_nx3 (q := 82) h rfl
  refine ⟨zq_k_u1 21 (fun z => .iload z) 4 h rfl (zq_o_21 _) (by decide +kernel), ?_⟩
  replace h := zq_nx2 (q := 84) h rfl
  exact zq_k_n 172 h rfl (zq_o_172 _)
theorem d_M_isSo_43 : decode prog_10_method_73_code 43 = .ok (.aload_n 0, 1) := dd_M_isSo_43.1
theorem d_M_isSo_44 : decode prog_10_method_73_code 44 = .ok (.getfield 7, 3) := dd_M_isSo_43.2.1
theorem d_M_isSo_47 : decode prog_10_method_73_code 47 = .ok (.iload 6, 2) := dd_M_isSo_43.2.2.1
theorem d_M_isSo_49 : decode prog_10_method_73_code 49 = .ok (.iconst 1, 1) := dd_M_isSo_43.2.2.2.1
theorem d_M_isSo_50 : decode prog_10_method_73_code 50 = .ok (.iadd, 1) := dd_M_isSo_43.2.2.2.2.1
theorem d_M_isSo_51 : decode prog_10_method_73_code 51 = .ok (.iaload, 1) := dd_M_isSo_43.2.2.2.2.2.1
theorem d_M_isSo_52 : decode prog_10_method_73_code 52 = .ok (.iload_n 2, 1) := dd_M_isSo_43.2.2.2.2.2.2.1
theorem d_M_isSo_53 : decode prog_10_method_73_code 53 = .ok (.if_icmp .ne 16, 3) := dd_M_isSo_43.2.2.2.2.2.2.2.1
theorem d_M_isSo_56 : decode prog_10_method_73_code 56 = .ok (.aload_n 0, 1) := dd_M_isSo_43.2.2.2.2.2.2.2.2.1
theorem d_M_isSo_57 : decode prog_10_method_73_code 57 = .ok (.getfield 7, 3) := dd_M_isSo_43.2.2.2.2.2.2.2.2.2.1
theorem d_M_isSo_60 : decode prog_10_method_73_code 60 = .ok (.iload 6, 2) := dd_M_isSo_43.2.2.2.2.2.2.2.2.2.2.1
theorem d_M_isSo_62 : decode prog_10_method_73_code 62 = .ok (.iconst 2, 1) := dd_M_isSo_43.2.2.2.2.2.2.2.2.2.2.2.1
theorem d_M_isSo_63 : decode prog_10_method_73_code 63 = .ok (.iadd, 1) := dd_M_isSo_43.2.2.2.2.2.2.2.2.2.2.2.2.1
theorem d_M_isSo_64 : decode prog_10_method_73_code 64 = .ok (.iaload, 1) := dd_M_isSo_43.2.2.2.2.2.2.2.2.2.2.2.2.2.1
theorem d_M_isSo_65 : decode prog_10_method_73_code 65 = .ok (.iload_n 3, 1) := dd_M_isSo_43.2.2.2.2.2.2.2.2.2.2.2.2.2.2.1
theorem d_M_isSo_66 : decode prog_10_method_73_code 66 = .ok (.if_icmp .ne 7, 3) := dd_M_isSo_43.2.2.2.2.2.2.2.2.2.2.2.2.2.2.2.1
theorem d_M_isSo_69 : decode prog_10_method_73_code 69 = .ok (.iconst 1, 1) := dd_M_isSo_43.2.2.2.2.2.2.2.2.2.2.2.2.2.2.2.2.1
theorem d_M_isSo_70 : decode prog_10_method_73_code 70 = .ok (.goto 4, 3) := dd_M_isSo_43.2.2.2.2.2.2.2.2.2.2.2.2.2.2.2.2.2.1
theorem d_M_isSo_73 : decode prog_10_method_73_code 73 = .ok (.iconst 0, 1) := dd_M_isSo_43.2.2.2.2.2.2.2.2.2.2.2.2.2.2.2.2.2.2.1
theorem d_M_isSo_74 : decode prog_10_method_73_code 74 = .ok (.istore 4, 2) := dd_M_isSo_43.2.2.2.2.2.2.2.2.2.2.2.2.2.2.2.2.2.2.2.1
theorem d_M_isSo_76 : decode prog_10_method_73_code 76 = .ok (.iinc 5 1, 3) := dd_M_isSo_43.2.2.2.2.2.2.2.2.2.2.2.2.2.2.2.2.2.2.2.2.1
theorem d_M_isSo_79 : decode prog_10_method_73_code 79 = .ok (.goto (-73), 3) := dd_M_isSo_43.2.2.2.2.2.2.2.2.2.2.2.2.2.2.2.2.2.2.2.2.2.1
theorem d_M_isSo_82 : decode prog_10_method_73_code 82 = .ok (.iload 4, 2) := dd_M_isSo_43.2.2.2.2.2.2.2.2.2.2.2.2.2.2.2.2.2.2.2.2.2.2.1
theorem d_M_isSo_84 : decode prog_10_method_73_code 84 = .ok (.ireturn, 1) := dd_M_isSo_43.2.2.2.2.2.2.2.2.2.2.2.2.2.2.2.2.2.2.2.2.2.2.2
def f_M_isSo_74 (rec6 : Nat → Int32 → Int32 → Int32 → Int32 → Int32 → mH → Option (Int32 × mH)) (b0 : Nat) (b1 : Int32) (b2 : Int32) (b3 : Int32) (b5 : Int32) (s0 : Int32) (h : mH) : Option (Int32 × mH) :=
  rec6 b0 b1 b2 b3 s0 (b5 + (1 : Int32)) h
set_option maxRecDepth 20000 in
theorem t_M_isSo_74 {sc : Nat × (Nat → Int32)} (rec6 : Nat → Int32 → Int32 → Int32 → Int32 → Int32 → mH → Option (Int32 × mH)) (hrec6 : ∀ (b0 : Nat) (b1 : Int32) (b2 : Int32) (b3 : Int32) (b4 : Int32) (b5 : Int32) (h : mH) (r : Int32) (h' : mH), rec6 b0 b1 b2 b3 b4 b5 h = some (r, h') → G sc y_M_isSo prog_10_method_73_code 7 (some .boolean) 0 0 6 [(0, .ref b0), (1, .int b1), (2, .int b2), (3, .int b3), (4, .int b4), (5, .int b5)] [] h (some (.int r)) h') (b0 : Nat) (b1 : Int32) (b2 : Int32) (b3 : Int32) (b5 : Int32) (s0 : Int32) (h : mH) (r : Int32) (h' : mH) (hf : f_M_isSo_74 rec6 b0 b1 b2 b3 b5 s0 h = some (r, h')) : G sc y_M_isSo prog_10_method_73_code 7 (some .boolean) 0 0 74 [(0, .ref b0), (1, .int b1), (2, .int b2), (3, .int b3), (5, .int b5)] [.int s0] h (some (.int r)) h' := by
  unfold f_M_isSo_74 at hf
  refine g_istore (pc := 74) [(4, .int s0), (0, .ref b0), (1, .int b1), (2, .int b2), (3, .int b3), (5, .int b5)] d_M_isSo_74 (Nat.le_of_ble_eq_true rfl) rfl ?_
  refine g_iinc (pc := 76) 5 (b5 + (1 : Int32)) [(5, .int (b5 + (1 : Int32))), (4, .int s0), (0, .ref b0), (1, .int b1), (2, .int b2), (3, .int b3)] d_M_isSo_76 rfl rfl (Nat.le_of_ble_eq_true rfl) rfl ?_
  refine g_goto (pc := 79) 6 d_M_isSo_79 (by decide) ?_
  refine g_lv [2, 3, 4, 5, 1, 0] rfl ?_
  exact hrec6 _ _ _ _ _ _ _ _ _  hf
def f_M_isSo_73 (rec6 : Nat → Int32 → Int32 → Int32 → Int32 → Int32 → mH → Option (Int32 × mH)) (b0 : Nat) (b1 : Int32) (b2 : Int32) (b3 : Int32) (b5 : Int32) (h : mH) : Option (Int32 × mH) :=
  f_M_isSo_74 rec6 b0 b1 b2 b3 b5 (0 : Int32) h
set_option maxRecDepth 20000 in
theorem t_M_isSo_73 {sc : Nat × (Nat → Int32)} (rec6 : Nat → Int32 → Int32 → Int32 → Int32 → Int32 → mH → Option (Int32 × mH)) (hrec6 : ∀ (b0 : Nat) (b1 : Int32) (b2 : Int32) (b3 : Int32) (b4 : Int32) (b5 : Int32) (h : mH) (r : Int32) (h' : mH), rec6 b0 b1 b2 b3 b4 b5 h = some (r, h') → G sc y_M_isSo prog_10_method_73_code 7 (some .boolean) 0 0 6 [(0, .ref b0), (1, .int b1), (2, .int b2), (3, .int b3), (4, .int b4), (5, .int b5)] [] h (some (.int r)) h') (b0 : Nat) (b1 : Int32) (b2 : Int32) (b3 : Int32) (b5 : Int32) (h : mH) (r : Int32) (h' : mH) (hf : f_M_isSo_73 rec6 b0 b1 b2 b3 b5 h = some (r, h')) : G sc y_M_isSo prog_10_method_73_code 7 (some .boolean) 0 0 73 [(0, .ref b0), (1, .int b1), (2, .int b2), (3, .int b3), (5, .int b5)] [] h (some (.int r)) h' := by
  unfold f_M_isSo_73 at hf
  refine g_iconst (pc := 73) (0 : Int32) d_M_isSo_73 (by decide) ?_
  refine g_lv [0, 1, 2, 3, 4] rfl ?_
  exact t_M_isSo_74 rec6 hrec6 _ _ _ _ _ _ _ _ _  hf
def f_M_isSo_69 (rec6 : Nat → Int32 → Int32 → Int32 → Int32 → Int32 → mH → Option (Int32 × mH)) (b0 : Nat) (b1 : Int32) (b2 : Int32) (b3 : Int32) (b5 : Int32) (h : mH) : Option (Int32 × mH) :=
  f_M_isSo_74 rec6 b0 b1 b2 b3 b5 (1 : Int32) h
set_option maxRecDepth 20000 in
theorem t_M_isSo_69 {sc : Nat × (Nat → Int32)} (rec6 : Nat → Int32 → Int32 → Int32 → Int32 → Int32 → mH → Option (Int32 × mH)) (hrec6 : ∀ (b0 : Nat) (b1 : Int32) (b2 : Int32) (b3 : Int32) (b4 : Int32) (b5 : Int32) (h : mH) (r : Int32) (h' : mH), rec6 b0 b1 b2 b3 b4 b5 h = some (r, h') → G sc y_M_isSo prog_10_method_73_code 7 (some .boolean) 0 0 6 [(0, .ref b0), (1, .int b1), (2, .int b2), (3, .int b3), (4, .int b4), (5, .int b5)] [] h (some (.int r)) h') (b0 : Nat) (b1 : Int32) (b2 : Int32) (b3 : Int32) (b5 : Int32) (h : mH) (r : Int32) (h' : mH) (hf : f_M_isSo_69 rec6 b0 b1 b2 b3 b5 h = some (r, h')) : G sc y_M_isSo prog_10_method_73_code 7 (some .boolean) 0 0 69 [(0, .ref b0), (1, .int b1), (2, .int b2), (3, .int b3), (5, .int b5)] [] h (some (.int r)) h' := by
  unfold f_M_isSo_69 at hf
  refine g_iconst (pc := 69) (1 : Int32) d_M_isSo_69 (by decide) ?_
  refine g_goto (pc := 70) 74 d_M_isSo_70 (by decide) ?_
  refine g_lv [0, 1, 2, 3, 4] rfl ?_
  exact t_M_isSo_74 rec6 hrec6 _ _ _ _ _ _ _ _ _  hf
def f_M_isSo_6b (rec6 : Nat → Int32 → Int32 → Int32 → Int32 → Int32 → mH → Option (Int32 × mH)) (b0 : Nat) (b1 : Int32) (b2 : Int32) (b3 : Int32) (b4 : Int32) (b5 : Int32) (h : mH) : Option (Int32 × mH) :=
  bd1 (gR h b0 8 0) fun x1 =>
  bd1 (aI h 0 x1 (41 : Int32)) fun x3 =>
  if x3 ≤ b5 then
    if b4 = 0 ∨ b4 = 1 then some (b4, h) else none
  else
    if b4 = 0 then
      f_M_isSo_73 rec6 b0 b1 b2 b3 b5 h
    else
      bd1 (gR h b0 8 0) fun x6 =>
      bd1 (aI h 0 x6 ((42 : Int32) + ((3 : Int32) * b5))) fun x8 =>
      if x8 = b1 then
        bd1 (gR h b0 8 0) fun x10 =>
        bd1 (aI h 0 x10 (((42 : Int32) + ((3 : Int32) * b5)) + (1 : Int32))) fun x12 =>
        if x12 = b2 then
          bd1 (gR h b0 8 0) fun x14 =>
          bd1 (aI h 0 x14 (((42 : Int32) + ((3 : Int32) * b5)) + (2 : Int32))) fun x16 =>
          if x16 = b3 then
            f_M_isSo_69 rec6 b0 b1 b2 b3 b5 h
          else
            f_M_isSo_73 rec6 b0 b1 b2 b3 b5 h
        else
          f_M_isSo_69 rec6 b0 b1 b2 b3 b5 h
      else
        f_M_isSo_69 rec6 b0 b1 b2 b3 b5 h
set_option maxRecDepth 20000 in
theorem t_M_isSo_6b {sc : Nat × (Nat → Int32)} (rec6 : Nat → Int32 → Int32 → Int32 → Int32 → Int32 → mH → Option (Int32 × mH)) (hrec6 : ∀ (b0 : Nat) (b1 : Int32) (b2 : Int32) (b3 : Int32) (b4 : Int32) (b5 : Int32) (h : mH) (r : Int32) (h' : mH), rec6 b0 b1 b2 b3 b4 b5 h = some (r, h') → G sc y_M_isSo prog_10_method_73_code 7 (some .boolean) 0 0 6 [(0, .ref b0), (1, .int b1), (2, .int b2), (3, .int b3), (4, .int b4), (5, .int b5)] [] h (some (.int r)) h') (b0 : Nat) (b1 : Int32) (b2 : Int32) (b3 : Int32) (b4 : Int32) (b5 : Int32) (h : mH) (r : Int32) (h' : mH) (hf : f_M_isSo_6b rec6 b0 b1 b2 b3 b4 b5 h = some (r, h')) : G sc y_M_isSo prog_10_method_73_code 7 (some .boolean) 0 0 6 [(0, .ref b0), (1, .int b1), (2, .int b2), (3, .int b3), (4, .int b4), (5, .int b5)] [] h (some (.int r)) h' := by
  unfold f_M_isSo_6b at hf
  refine g_iload (pc := 6) 5 d_M_isSo_6 rfl ?_
  refine g_aload_n (pc := 8) 0 d_M_isSo_8 rfl rfl ?_
  obtain ⟨x1, e2, hf⟩ := bd1_e hf
  refine g_get (pc := 9) (ci := 8) (kk := 0) d_M_isSo_9 rfl in_M (by decide) wd_938 (gR_spec e2) ?_
  refine g_bipush (pc := 12) (41 : Int32) d_M_isSo_12 (by decide) ?_
  obtain ⟨x3, e4, hf⟩ := bd1_e hf
  refine g_iald (pc := 14) d_M_isSo_14 e4 ?_
  refine g_icmpge (pc := 15) 82 d_M_isSo_15 (by decide) (fun c22 => ?_) (fun c22 => ?_)
  · replace hf := (if_pos c22).symm.trans hf
    refine g_iload (pc := 82) 4 d_M_isSo_82 rfl ?_
    by_cases c5 : b4 = 0 ∨ b4 = 1
    · replace hf := (if_pos c5).symm.trans hf
      obtain ⟨rfl, rfl⟩ := ret2 hf
      exact g_zret (pc := 84) rfl (nar_z c5) d_M_isSo_84
    · exact absurd ((if_neg c5).symm.trans hf) (by simp)
  · replace hf := (if_neg c22).symm.trans hf
    refine g_bipush (pc := 18) (42 : Int32) d_M_isSo_18 (by decide) ?_
    refine g_iconst (pc := 20) (3 : Int32) d_M_isSo_20 (by decide) ?_
    refine g_iload (pc := 21) 5 d_M_isSo_21 rfl ?_
    refine g_imul (pc := 23) d_M_isSo_23 ?_
    refine g_iadd (pc := 24) d_M_isSo_24 ?_
    refine g_istore (pc := 25) [(6, .int ((42 : Int32) + ((3 : Int32) * b5))), (0, .ref b0), (1, .int b1), (2, .int b2), (3, .int b3), (4, .int b4), (5, .int b5)] d_M_isSo_25 (Nat.le_of_ble_eq_true rfl) rfl ?_
    refine g_iload (pc := 27) 5 d_M_isSo_27 rfl ?_
    refine g_ifeq (pc := 29) 73 d_M_isSo_29 (by decide) (fun c21 => ?_) (fun c21 => ?_)
    · replace hf := (if_pos c21).symm.trans hf
      refine g_lv [1, 2, 3, 4, 6] rfl ?_
      exact t_M_isSo_73 rec6 hrec6 _ _ _ _ _ _ _ _  hf
    · replace hf := (if_neg c21).symm.trans hf
      refine g_aload_n (pc := 32) 1 d_M_isSo_32 rfl rfl ?_
      obtain ⟨x6, e7, hf⟩ := bd1_e hf
      refine g_get (pc := 33) (ci := 8) (kk := 0) d_M_isSo_33 rfl in_M (by decide) wd_938 (gR_spec e7) ?_
      refine g_iload (pc := 36) 0 d_M_isSo_36 rfl ?_
      obtain ⟨x8, e9, hf⟩ := bd1_e hf
      refine g_iald (pc := 38) d_M_isSo_38 e9 ?_
      refine g_iload_n (pc := 39) 2 d_M_isSo_39 rfl rfl ?_
      refine g_icmpne (pc := 40) 69 d_M_isSo_40 (by decide) (fun c20 => ?_) (fun c20 => ?_)
      · replace hf := (if_neg c20).symm.trans hf
        refine g_lv [1, 2, 3, 4, 6] rfl ?_
        exact t_M_isSo_69 rec6 hrec6 _ _ _ _ _ _ _ _  hf
      · replace hf := (if_pos c20).symm.trans hf
        refine g_aload_n (pc := 43) 1 d_M_isSo_43 rfl rfl ?_
        obtain ⟨x10, e11, hf⟩ := bd1_e hf
        refine g_get (pc := 44) (ci := 8) (kk := 0) d_M_isSo_44 rfl in_M (by decide) wd_938 (gR_spec e11) ?_
        refine g_iload (pc := 47) 0 d_M_isSo_47 rfl ?_
        refine g_iconst (pc := 49) (1 : Int32) d_M_isSo_49 (by decide) ?_
        refine g_iadd (pc := 50) d_M_isSo_50 ?_
        obtain ⟨x12, e13, hf⟩ := bd1_e hf
        refine g_iald (pc := 51) d_M_isSo_51 e13 ?_
        refine g_iload_n (pc := 52) 3 d_M_isSo_52 rfl rfl ?_
        refine g_icmpne (pc := 53) 69 d_M_isSo_53 (by decide) (fun c19 => ?_) (fun c19 => ?_)
        · replace hf := (if_neg c19).symm.trans hf
          refine g_lv [1, 2, 3, 4, 6] rfl ?_
          exact t_M_isSo_69 rec6 hrec6 _ _ _ _ _ _ _ _  hf
        · replace hf := (if_pos c19).symm.trans hf
          refine g_aload_n (pc := 56) 1 d_M_isSo_56 rfl rfl ?_
          obtain ⟨x14, e15, hf⟩ := bd1_e hf
          refine g_get (pc := 57) (ci := 8) (kk := 0) d_M_isSo_57 rfl in_M (by decide) wd_938 (gR_spec e15) ?_
          refine g_iload (pc := 60) 0 d_M_isSo_60 rfl ?_
          refine g_iconst (pc := 62) (2 : Int32) d_M_isSo_62 (by decide) ?_
          refine g_iadd (pc := 63) d_M_isSo_63 ?_
          obtain ⟨x16, e17, hf⟩ := bd1_e hf
          refine g_iald (pc := 64) d_M_isSo_64 e17 ?_
          refine g_iload_n (pc := 65) 4 d_M_isSo_65 rfl rfl ?_
          refine g_icmpne (pc := 66) 73 d_M_isSo_66 (by decide) (fun c18 => ?_) (fun c18 => ?_)
          · replace hf := (if_neg c18).symm.trans hf
            refine g_lv [1, 2, 3, 4, 6] rfl ?_
            exact t_M_isSo_73 rec6 hrec6 _ _ _ _ _ _ _ _  hf
          · replace hf := (if_pos c18).symm.trans hf
            refine g_lv [1, 2, 3, 4, 6] rfl ?_
            exact t_M_isSo_69 rec6 hrec6 _ _ _ _ _ _ _ _  hf
def f_M_isSo_6  : Nat → Nat → Int32 → Int32 → Int32 → Int32 → Int32 → mH → Option (Int32 × mH)
  | 0 => fun _ _ _ _ _ _ _ => none
  | n + 1 => f_M_isSo_6b  (f_M_isSo_6  n)
theorem t_M_isSo_6 {sc : Nat × (Nat → Int32)}  : ∀ (n : Nat) (b0 : Nat) (b1 : Int32) (b2 : Int32) (b3 : Int32) (b4 : Int32) (b5 : Int32) (h : mH) (r : Int32) (h' : mH) (hf : f_M_isSo_6  n b0 b1 b2 b3 b4 b5 h = some (r, h')), G sc y_M_isSo prog_10_method_73_code 7 (some .boolean) 0 0 6 [(0, .ref b0), (1, .int b1), (2, .int b2), (3, .int b3), (4, .int b4), (5, .int b5)] [] h (some (.int r)) h'
  | 0, _, _, _, _, _, _, _, _, _, hf => by cases hf
  | n + 1, _, _, _, _, _, _, _, _, _, hf => t_M_isSo_6b  (f_M_isSo_6  n) (t_M_isSo_6  n) _ _ _ _ _ _ _ _ _ hf
def f_M_isSo_0  (a0 : Nat) (a1 : Int32) (a2 : Int32) (a3 : Int32) (h : mH) : Option (Int32 × mH) :=
  f_M_isSo_6  FU a0 a1 a2 a3 (1 : Int32) (0 : Int32) h
set_option maxRecDepth 20000 in
theorem t_M_isSo_0 {sc : Nat × (Nat → Int32)}  (a0 : Nat) (a1 : Int32) (a2 : Int32) (a3 : Int32) (h : mH) (r : Int32) (h' : mH) (hf : f_M_isSo_0  a0 a1 a2 a3 h = some (r, h')) : G sc y_M_isSo prog_10_method_73_code 7 (some .boolean) 0 0 0 [(0, .ref a0), (1, .int a1), (2, .int a2), (3, .int a3)] [] h (some (.int r)) h' := by
  unfold f_M_isSo_0 at hf
  refine g_iconst (pc := 0) (1 : Int32) d_M_isSo_0 (by decide) ?_
  refine g_istore (pc := 1) [(4, .int (1 : Int32)), (0, .ref a0), (1, .int a1), (2, .int a2), (3, .int a3)] d_M_isSo_1 (Nat.le_of_ble_eq_true rfl) rfl ?_
  refine g_iconst (pc := 3) (0 : Int32) d_M_isSo_3 (by decide) ?_
  refine g_istore (pc := 4) [(5, .int (0 : Int32)), (4, .int (1 : Int32)), (0, .ref a0), (1, .int a1), (2, .int a2), (3, .int a3)] d_M_isSo_4 (Nat.le_of_ble_eq_true rfl) rfl ?_
  refine g_lv [2, 3, 4, 5, 1, 0] rfl ?_
  exact t_M_isSo_6  FU _ _ _ _ _ _ _ _ _  hf
def f_M_isSo (a0 : Nat) (a1 : Int32) (a2 : Int32) (a3 : Int32) (h : mH) : Option (Int32 × mH) := f_M_isSo_0 a0 a1 a2 a3 h
theorem c_M_isSo {sc : Nat × (Nat → Int32)} {a0 : Nat} {a1 : Int32} {a2 : Int32} {a3 : Int32} {h : mH} {r : Int32} {h' : mH} (hf : f_M_isSo a0 a1 a2 a3 h = some (r, h')) : MM sc y_M_isSo prog_10_method_73_code 7 (some .boolean) 0 0 [.ref a0, .int a1, .int a2, .int a3] h (some (.int r)) h' :=
  mm_of_G (by decide) (Nat.le_of_ble_eq_true rfl) (t_M_isSo_0 _ _ _ _ _ _ _ hf)
/-! M isAsked (IIIIII)Z -/
set_option maxRecDepth 100000 in
theorem dd_M_isAsked_0 : (decode prog_10_method_75_code 0 = .ok (.iload_n 1, 1)) ∧ (decode prog_10_method_75_code 1 = .ok (.iload 4, 2)) ∧ (decode prog_10_method_75_code 3 = .ok (.if_icmp .ne 15, 3)) ∧ (decode prog_10_method_75_code 6 = .ok (.iload_n 2, 1)) ∧ (decode prog_10_method_75_code 7 = .ok (.iload 5, 2)) ∧ (decode prog_10_method_75_code 9 = .ok (.if_icmp .ne 9, 3)) ∧ (decode prog_10_method_75_code 12 = .ok (.iload_n 3, 1)) ∧ (decode prog_10_method_75_code 13 = .ok (.iload 6, 2)) ∧ (decode prog_10_method_75_code 15 = .ok (.if_icmp .ne 7, 3)) ∧ (decode prog_10_method_75_code 18 = .ok (.iconst 1, 1)) ∧ (decode prog_10_method_75_code 19 = .ok (.goto 4, 3)) ∧ (decode prog_10_method_75_code 22 = .ok (.iconst 0, 1)) ∧ (decode prog_10_method_75_code 23 = .ok (.ireturn, 1)) := by
  have h : List.drop 0 prog_10_method_75_code.data.toList = 0x1b :: _ := rfl
  refine ⟨zq_k_n 27 h rfl (zq_o_27 _), ?_⟩
  replace h := zq_nx1 (q := 1) h rfl
  refine ⟨zq_k_u1 21 (fun z => .iload z) 4 h rfl (zq_o_21 _) (by decide +kernel), ?_⟩
  replace h := zq_nx2 (q := 3) h rfl
  refine ⟨zq_k_s2 160 (fun z => .if_icmp .ne z) 15 h rfl (zq_o_160 _) (by decide +kernel), ?_⟩
  replace h := zq_nx3 (q := 6) h rfl
  refine ⟨zq_k_n 28 h rfl (zq_o_28 _), ?_⟩
  replace h := zq_nx1 (q := 7) h rfl
  refine ⟨zq_k_u1 21 (fun z => .iload z) 5 h rfl (zq_o_21 _) (by decide +kernel), ?_⟩
  replace h := zq_nx2 (q := 9) h rfl
  refine ⟨zq_k_s2 160 (fun z => .if_icmp .ne z) 9 h rfl (zq_o_160 _) (by decide +kernel), ?_⟩
  replace h := zq_nx3 (q := 12) h rfl
  refine ⟨zq_k_n 29 h rfl (zq_o_29 _), ?_⟩
  replace h := zq_nx1 (q := 13) h rfl
  refine ⟨zq_k_u1 21 (fun z => .iload z) 6 h rfl (zq_o_21 _) (by decide +kernel), ?_⟩
  replace h := zq_nx2 (q := 15) h rfl
  refine ⟨zq_k_s2 160 (fun z => .if_icmp .ne z) 7 h rfl (zq_o_160 _) (by decide +kernel), ?_⟩
  replace h := zq_nx3 (q := 18) h rfl
  refine ⟨zq_k_n 4 h rfl (zq_o_4 _), ?_⟩
  replace h := zq_nx1 (q := 19) h rfl
  refine ⟨zq_k_s2 167 (fun z => .goto z) 4 h rfl (zq_o_167 _) (by decide +kernel), ?_⟩
  replace h := zq_nx3 (q := 22) h rfl
  refine ⟨zq_k_n 3 h rfl (zq_o_3 _), ?_⟩
  replace h := zq_nx1 (q := 23) h rfl
  exact zq_k_n 172 h rfl (zq_o_172 _)
theorem d_M_isAsked_0 : decode prog_10_method_75_code 0 = .ok (.iload_n 1, 1) := dd_M_isAsked_0.1
theorem d_M_isAsked_1 : decode prog_10_method_75_code 1 = .ok (.iload 4, 2) := dd_M_isAsked_0.2.1
theorem d_M_isAsked_3 : decode prog_10_method_75_code 3 = .ok (.if_icmp .ne 15, 3) := dd_M_isAsked_0.2.2.1
theorem d_M_isAsked_6 : decode prog_10_method_75_code 6 = .ok (.iload_n 2, 1) := dd_M_isAsked_0.2.2.2.1
theorem d_M_isAsked_7 : decode prog_10_method_75_code 7 = .ok (.iload 5, 2) := dd_M_isAsked_0.2.2.2.2.1
theorem d_M_isAsked_9 : decode prog_10_method_75_code 9 = .ok (.if_icmp .ne 9, 3) := dd_M_isAsked_0.2.2.2.2.2.1
theorem d_M_isAsked_12 : decode prog_10_method_75_code 12 = .ok (.iload_n 3, 1) := dd_M_isAsked_0.2.2.2.2.2.2.1
theorem d_M_isAsked_13 : decode prog_10_method_75_code 13 = .ok (.iload 6, 2) := dd_M_isAsked_0.2.2.2.2.2.2.2.1
theorem d_M_isAsked_15 : decode prog_10_method_75_code 15 = .ok (.if_icmp .ne 7, 3) := dd_M_isAsked_0.2.2.2.2.2.2.2.2.1
theorem d_M_isAsked_18 : decode prog_10_method_75_code 18 = .ok (.iconst 1, 1) := dd_M_isAsked_0.2.2.2.2.2.2.2.2.2.1
theorem d_M_isAsked_19 : decode prog_10_method_75_code 19 = .ok (.goto 4, 3) := dd_M_isAsked_0.2.2.2.2.2.2.2.2.2.2.1
theorem d_M_isAsked_22 : decode prog_10_method_75_code 22 = .ok (.iconst 0, 1) := dd_M_isAsked_0.2.2.2.2.2.2.2.2.2.2.2.1
theorem d_M_isAsked_23 : decode prog_10_method_75_code 23 = .ok (.ireturn, 1) := dd_M_isAsked_0.2.2.2.2.2.2.2.2.2.2.2.2
def f_M_isAsked_18   (h : mH) : Option (Int32 × mH) :=
  some ((1 : Int32), h)
set_option maxRecDepth 20000 in
theorem t_M_isAsked_18 {sc : Nat × (Nat → Int32)}   (h : mH) (r : Int32) (h' : mH) (hf : f_M_isAsked_18   h = some (r, h')) : G sc y_M_isAsked prog_10_method_75_code 7 (some .boolean) 0 0 18 [] [] h (some (.int r)) h' := by
  unfold f_M_isAsked_18 at hf
  refine g_iconst (pc := 18) (1 : Int32) d_M_isAsked_18 (by decide) ?_
  refine g_goto (pc := 19) 23 d_M_isAsked_19 (by decide) ?_
  obtain ⟨rfl, rfl⟩ := ret2 hf
  exact g_zret (pc := 23) rfl rfl d_M_isAsked_23
def f_M_isAsked_0  (a0 : Nat) (a1 : Int32) (a2 : Int32) (a3 : Int32) (a4 : Int32) (a5 : Int32) (a6 : Int32) (h : mH) : Option (Int32 × mH) :=
  if a1 = a4 then
    if a2 = a5 then
      if a3 = a6 then
        f_M_isAsked_18  h
      else
        some ((0 : Int32), h)
    else
      f_M_isAsked_18  h
  else
    f_M_isAsked_18  h
set_option maxRecDepth 20000 in
theorem t_M_isAsked_0 {sc : Nat × (Nat → Int32)}  (a0 : Nat) (a1 : Int32) (a2 : Int32) (a3 : Int32) (a4 : Int32) (a5 : Int32) (a6 : Int32) (h : mH) (r : Int32) (h' : mH) (hf : f_M_isAsked_0  a0 a1 a2 a3 a4 a5 a6 h = some (r, h')) : G sc y_M_isAsked prog_10_method_75_code 7 (some .boolean) 0 0 0 [(0, .ref a0), (1, .int a1), (2, .int a2), (3, .int a3), (4, .int a4), (5, .int a5), (6, .int a6)] [] h (some (.int r)) h' := by
  unfold f_M_isAsked_0 at hf
  refine g_iload_n (pc := 0) 1 d_M_isAsked_0 rfl rfl ?_
  refine g_iload (pc := 1) 4 d_M_isAsked_1 rfl ?_
  refine g_icmpne (pc := 3) 18 d_M_isAsked_3 (by decide) (fun c3 => ?_) (fun c3 => ?_)
  · replace hf := (if_neg c3).symm.trans hf
    refine g_lv [] rfl ?_
    exact t_M_isAsked_18  _ _ _  hf
  · replace hf := (if_pos c3).symm.trans hf
    refine g_iload_n (pc := 6) 2 d_M_isAsked_6 rfl rfl ?_
    refine g_iload (pc := 7) 5 d_M_isAsked_7 rfl ?_
    refine g_icmpne (pc := 9) 18 d_M_isAsked_9 (by decide) (fun c2 => ?_) (fun c2 => ?_)
    · replace hf := (if_neg c2).symm.trans hf
      refine g_lv [] rfl ?_
      exact t_M_isAsked_18  _ _ _  hf
    · replace hf := (if_pos c2).symm.trans hf
      refine g_iload_n (pc := 12) 3 d_M_isAsked_12 rfl rfl ?_
      refine g_iload (pc := 13) 6 d_M_isAsked_13 rfl ?_
      refine g_icmpne (pc := 15) 22 d_M_isAsked_15 (by decide) (fun c1 => ?_) (fun c1 => ?_)
      · replace hf := (if_neg c1).symm.trans hf
        refine g_iconst (pc := 22) (0 : Int32) d_M_isAsked_22 (by decide) ?_
        obtain ⟨rfl, rfl⟩ := ret2 hf
        exact g_zret (pc := 23) rfl rfl d_M_isAsked_23
      · replace hf := (if_pos c1).symm.trans hf
        refine g_lv [] rfl ?_
        exact t_M_isAsked_18  _ _ _  hf
def f_M_isAsked (a0 : Nat) (a1 : Int32) (a2 : Int32) (a3 : Int32) (a4 : Int32) (a5 : Int32) (a6 : Int32) (h : mH) : Option (Int32 × mH) := f_M_isAsked_0 a0 a1 a2 a3 a4 a5 a6 h
theorem c_M_isAsked {sc : Nat × (Nat → Int32)} {a0 : Nat} {a1 : Int32} {a2 : Int32} {a3 : Int32} {a4 : Int32} {a5 : Int32} {a6 : Int32} {h : mH} {r : Int32} {h' : mH} (hf : f_M_isAsked a0 a1 a2 a3 a4 a5 a6 h = some (r, h')) : MM sc y_M_isAsked prog_10_method_75_code 7 (some .boolean) 0 0 [.ref a0, .int a1, .int a2, .int a3, .int a4, .int a5, .int a6] h (some (.int r)) h' :=
  mm_of_G (by decide) (Nat.le_of_ble_eq_true rfl) (t_M_isAsked_0 _ _ _ _ _ _ _ _ _ _ hf)
/-! M addsTables (III)V -/
set_option maxRecDepth 100000 in
theorem dd_M_addsTables_0 : (decode prog_10_method_77_code 0 = .ok (.iconst 0, 1)) ∧ (decode prog_10_method_77_code 1 = .ok (.istore 4, 2)) ∧ (decode prog_10_method_77_code 3 = .ok (.iload 4, 2)) ∧ (decode prog_10_method_77_code 5 = .ok (.sipush 216, 3)) ∧ (decode prog_10_method_77_code 8 = .ok (.if_icmp .ge 89, 3)) ∧ (decode prog_10_method_77_code 11 = .ok (.iload 4, 2)) ∧ (decode prog_10_method_77_code 13 = .ok (.bipush 36, 2)) ∧ (decode prog_10_method_77_code 15 = .ok (.idiv, 1)) ∧ (decode prog_10_method_77_code 16 = .ok (.iload_n 1, 1)) ∧ (decode prog_10_method_77_code 17 = .ok (.iadd, 1)) ∧ (decode prog_10_method_77_code 18 = .ok (.istore 5, 2)) ∧ (decode prog_10_method_77_code 20 = .ok (.iload 4, 2)) ∧ (decode prog_10_method_77_code 22 = .ok (.bipush 6, 2)) ∧ (decode prog_10_method_77_code 24 = .ok (.idiv, 1)) ∧ (decode prog_10_method_77_code 25 = .ok (.bipush 6, 2)) ∧ (decode prog_10_method_77_code 27 = .ok (.irem, 1)) ∧ (decode prog_10_method_77_code 28 = .ok (.iload_n 2, 1)) ∧ (decode prog_10_method_77_code 29 = .ok (.iadd, 1)) ∧ (decode prog_10_method_77_code 30 = .ok (.istore 6, 2)) ∧ (decode prog_10_method_77_code 32 = .ok (.iload 4, 2)) ∧ (decode prog_10_method_77_code 34 = .ok (.bipush 6, 2)) ∧ (decode prog_10_method_77_code 36 = .ok (.irem, 1)) ∧ (decode prog_10_method_77_code 37 = .ok (.iload_n 3, 1)) ∧ (decode prog_10_method_77_code 38 = .ok (.iadd, 1)) := by
  have h : List.drop 0 prog_10_method_77_code.data.toList = 0x03 :: _ := rfl
  refine ⟨zq_k_n 3 h rfl (zq_o_3 _), ?_⟩
  replace h := zq_nx1 (q := 1) h rfl
  refine ⟨zq_k_u1 54 (fun z => .istore z) 4 h rfl (zq_o_54 _) (by decide +kernel), ?_⟩
  replace h := zq_nx2 (q := 3) h rfl
  refine ⟨zq_k_u1 21 (fun z => .iload z) 4 h rfl (zq_o_21 _) (by decide +kernel), ?_⟩
  replace h := zq_nx2 (q := 5) h rfl
  refine ⟨zq_k_s2 17 (fun z => .sipush z) 216 h rfl (zq_o_17 _) (by decide +kernel), ?_⟩
  replace h := zq_nx3 (q := 8) h rfl
  refine ⟨zq_k_s2 162 (fun z => .if_icmp .ge z) 89 h rfl (zq_o_162 _) (by decide +kernel), ?_⟩
  replace h := zq_nx3 (q := 11) h rfl
  refine ⟨zq_k_u1 21 (fun z => .iload z) 4 h rfl (zq_o_21 _) (by decide +kernel), ?_⟩
  replace h := zq_nx2 (q := 13) h rfl
  refine ⟨zq_k_s1 16 (fun z => .bipush z) 36 h rfl (zq_o_16 _) (by decide +kernel), ?_⟩
  replace h := zq_nx2 (q := 15) h rfl
  refine ⟨zq_k_n 108 h rfl (zq_o_108 _), ?_⟩
  replace h := zq_nx1 (q := 16) h rfl
  refine ⟨zq_k_n 27 h rfl (zq_o_27 _), ?_⟩
  replace h := zq_nx1 (q := 17) h rfl
  refine ⟨zq_k_n 96 h rfl (zq_o_96 _), ?_⟩
  replace h := zq_nx1 (q := 18) h rfl
  refine ⟨zq_k_u1 54 (fun z => .istore z) 5 h rfl (zq_o_54 _) (by decide +kernel), ?_⟩
  replace h := zq_nx2 (q := 20) h rfl
  refine ⟨zq_k_u1 21 (fun z => .iload z) 4 h rfl (zq_o_21 _) (by decide +kernel), ?_⟩
  replace h := zq_nx2 (q := 22) h rfl
  refine ⟨zq_k_s1 16 (fun z => .bipush z) 6 h rfl (zq_o_16 _) (by decide +kernel), ?_⟩
  replace h := zq_nx2 (q := 24) h rfl
  refine ⟨zq_k_n 108 h rfl (zq_o_108 _), ?_⟩
  replace h := zq_nx1 (q := 25) h rfl
  refine ⟨zq_k_s1 16 (fun z => .bipush z) 6 h rfl (zq_o_16 _) (by decide +kernel), ?_⟩
  replace h := zq_nx2 (q := 27) h rfl
  refine ⟨zq_k_n 112 h rfl (zq_o_112 _), ?_⟩
  replace h := zq_nx1 (q := 28) h rfl
  refine ⟨zq_k_n 28 h rfl (zq_o_28 _), ?_⟩
  replace h := zq_nx1 (q := 29) h rfl
  refine ⟨zq_k_n 96 h rfl (zq_o_96 _), ?_⟩
  replace h := zq_nx1 (q := 30) h rfl
  refine ⟨zq_k_u1 54 (fun z => .istore z) 6 h rfl (zq_o_54 _) (by decide +kernel), ?_⟩
  replace h := zq_nx2 (q := 32) h rfl
  refine ⟨zq_k_u1 21 (fun z => .iload z) 4 h rfl (zq_o_21 _) (by decide +kernel), ?_⟩
  replace h := zq_nx2 (q := 34) h rfl
  refine ⟨zq_k_s1 16 (fun z => .bipush z) 6 h rfl (zq_o_16 _) (by decide +kernel), ?_⟩
  replace h := zq_nx2 (q := 36) h rfl
  refine ⟨zq_k_n 112 h rfl (zq_o_112 _), ?_⟩
  replace h := zq_nx1 (q := 37) h rfl
  refine ⟨zq_k_n 29 h rfl (zq_o_29 _), ?_⟩
  replace h := zq_nx1 (q := 38) h rfl
  exact zq_k_n 96 h rfl (zq_o_96 _)
theorem d_M_addsTables_0 : decode prog_10_method_77_code 0 = .ok (.iconst 0, 1) := dd_M_addsTables_0.1
theorem d_M_addsTables_1 : decode prog_10_method_77_code 1 = .ok (.istore 4, 2) := dd_M_addsTables_0.2.1
theorem d_M_addsTables_3 : decode prog_10_method_77_code 3 = .ok (.iload 4, 2) := dd_M_addsTables_0.2.2.1
theorem d_M_addsTables_5 : decode prog_10_method_77_code 5 = .ok (.sipush 216, 3) := dd_M_addsTables_0.2.2.2.1
theorem d_M_addsTables_8 : decode prog_10_method_77_code 8 = .ok (.if_icmp .ge 89, 3) := dd_M_addsTables_0.2.2.2.2.1
theorem d_M_addsTables_11 : decode prog_10_method_77_code 11 = .ok (.iload 4, 2) := dd_M_addsTables_0.2.2.2.2.2.1
theorem d_M_addsTables_13 : decode prog_10_method_77_code 13 = .ok (.bipush 36, 2) := dd_M_addsTables_0.2.2.2.2.2.2.1
theorem d_M_addsTables_15 : decode prog_10_method_77_code 15 = .ok (.idiv, 1) := dd_M_addsTables_0.2.2.2.2.2.2.2.1
theorem d_M_addsTables_16 : decode prog_10_method_77_code 16 = .ok (.iload_n 1, 1) := dd_M_addsTables_0.2.2.2.2.2.2.2.2.1
theorem d_M_addsTables_17 : decode prog_10_method_77_code 17 = .ok (.iadd, 1) := dd_M_addsTables_0.2.2.2.2.2.2.2.2.2.1
theorem d_M_addsTables_18 : decode prog_10_method_77_code 18 = .ok (.istore 5, 2) := dd_M_addsTables_0.2.2.2.2.2.2.2.2.2.2.1
theorem d_M_addsTables_20 : decode prog_10_method_77_code 20 = .ok (.iload 4, 2) := dd_M_addsTables_0.2.2.2.2.2.2.2.2.2.2.2.1
theorem d_M_addsTables_22 : decode prog_10_method_77_code 22 = .ok (.bipush 6, 2) := dd_M_addsTables_0.2.2.2.2.2.2.2.2.2.2.2.2.1
theorem d_M_addsTables_24 : decode prog_10_method_77_code 24 = .ok (.idiv, 1) := dd_M_addsTables_0.2.2.2.2.2.2.2.2.2.2.2.2.2.1
theorem d_M_addsTables_25 : decode prog_10_method_77_code 25 = .ok (.bipush 6, 2) := dd_M_addsTables_0.2.2.2.2.2.2.2.2.2.2.2.2.2.2.1
theorem d_M_addsTables_27 : decode prog_10_method_77_code 27 = .ok (.irem, 1) := dd_M_addsTables_0.2.2.2.2.2.2.2.2.2.2.2.2.2.2.2.1
theorem d_M_addsTables_28 : decode prog_10_method_77_code 28 = .ok (.iload_n 2, 1) := dd_M_addsTables_0.2.2.2.2.2.2.2.2.2.2.2.2.2.2.2.2.1
theorem d_M_addsTables_29 : decode prog_10_method_77_code 29 = .ok (.iadd, 1) := dd_M_addsTables_0.2.2.2.2.2.2.2.2.2.2.2.2.2.2.2.2.2.1
theorem d_M_addsTables_30 : decode prog_10_method_77_code 30 = .ok (.istore 6, 2) := dd_M_addsTables_0.2.2.2.2.2.2.2.2.2.2.2.2.2.2.2.2.2.2.1
theorem d_M_addsTables_32 : decode prog_10_method_77_code 32 = .ok (.iload 4, 2) := dd_M_addsTables_0.2.2.2.2.2.2.2.2.2.2.2.2.2.2.2.2.2.2.2.1
theorem d_M_addsTables_34 : decode prog_10_method_77_code 34 = .ok (.bipush 6, 2) := dd_M_addsTables_0.2.2.2.2.2.2.2.2.2.2.2.2.2.2.2.2.2.2.2.2.1
theorem d_M_addsTables_36 : decode prog_10_method_77_code 36 = .ok (.irem, 1) := dd_M_addsTables_0.2.2.2.2.2.2.2.2.2.2.2.2.2.2.2.2.2.2.2.2.2.1
theorem d_M_addsTables_37 : decode prog_10_method_77_code 37 = .ok (.iload_n 3, 1) := dd_M_addsTables_0.2.2.2.2.2.2.2.2.2.2.2.2.2.2.2.2.2.2.2.2.2.2.1
theorem d_M_addsTables_38 : decode prog_10_method_77_code 38 = .ok (.iadd, 1) := dd_M_addsTables_0.2.2.2.2.2.2.2.2.2.2.2.2.2.2.2.2.2.2.2.2.2.2.2
set_option maxRecDepth 100000 in
theorem dd_M_addsTables_39 : (decode prog_10_method_77_code 39 = .ok (.istore 7, 2)) ∧ (decode prog_10_method_77_code 41 = .ok (.iload 5, 2)) ∧ (decode prog_10_method_77_code 43 = .ok (.bipush 6, 2)) ∧ (decode prog_10_method_77_code 45 = .ok (.if_icmp .ge 46, 3)) ∧ (decode prog_10_method_77_code 48 = .ok (.iload 6, 2)) ∧ (decode prog_10_method_77_code 50 = .ok (.bipush 6, 2)) ∧ (decode prog_10_method_77_code 52 = .ok (.if_icmp .ge 39, 3)) ∧ (decode prog_10_method_77_code 55 = .ok (.iload 7, 2)) ∧ (decode prog_10_method_77_code 57 = .ok (.bipush 6, 2)) ∧ (decode prog_10_method_77_code 59 = .ok (.if_icmp .ge 32, 3)) ∧ (decode prog_10_method_77_code 62 = .ok (.aload_n 0, 1)) ∧ (decode prog_10_method_77_code 63 = .ok (.getfield 75, 3)) ∧ (decode prog_10_method_77_code 66 = .ok (.bipush 36, 2)) ∧ (decode prog_10_method_77_code 68 = .ok (.iload 5, 2)) ∧ (decode prog_10_method_77_code 70 = .ok (.imul, 1)) ∧ (decode prog_10_method_77_code 71 = .ok (.bipush 6, 2)) ∧ (decode prog_10_method_77_code 73 = .ok (.iload 6, 2)) ∧ (decode prog_10_method_77_code 75 = .ok (.imul, 1)) ∧ (decode prog_10_method_77_code 76 = .ok (.iadd, 1)) ∧ (decode prog_10_method_77_code 77 = .ok (.iload 7, 2)) ∧ (decode prog_10_method_77_code 79 = .ok (.iadd, 1)) ∧ (decode prog_10_method_77_code 80 = .ok (.dup2, 1)) ∧ (decode prog_10_method_77_code 81 = .ok (.laload, 1)) ∧ (decode prog_10_method_77_code 82 = .ok (.aload_n 0, 1)) := by
  have h : List.drop 39 prog_10_method_77_code.data.toList = 0x36 :: _ := rfl
  refine ⟨zq_k_u1 54 (fun z => .istore z) 7 h rfl (zq_o_54 _) (by decide +kernel), ?_⟩
  replace h := zq_nx2 (q := 41) h rfl
  refine ⟨zq_k_u1 21 (fun z => .iload z) 5 h rfl (zq_o_21 _) (by decide +kernel), ?_⟩
  replace h := zq_nx2 (q := 43) h rfl
  refine ⟨zq_k_s1 16 (fun z => .bipush z) 6 h rfl (zq_o_16 _) (by decide +kernel), ?_⟩
  replace h := zq_nx2 (q := 45) h rfl
  refine ⟨zq_k_s2 162 (fun z => .if_icmp .ge z) 46 h rfl (zq_o_162 _) (by decide +kernel), ?_⟩
  replace h := zq_nx3 (q := 48) h rfl
  refine ⟨zq_k_u1 21 (fun z => .iload z) 6 h rfl (zq_o_21 _) (by decide +kernel), ?_⟩
  replace h := zq_nx2 (q := 50) h rfl
  refine ⟨zq_k_s1 16 (fun z => .bipush z) 6 h rfl (zq_o_16 _) (by decide +kernel), ?_⟩
  replace h := zq_nx2 (q := 52) h rfl
  refine ⟨zq_k_s2 162 (fun z => .if_icmp .ge z) 39 h rfl (zq_o_162 _) (by decide +kernel), ?_⟩
  replace h := zq_nx3 (q := 55) h rfl
  refine ⟨zq_k_u1 21 (fun z => .iload z) 7 h rfl (zq_o_21 _) (by decide +kernel), ?_⟩
  replace h := zq_nx2 (q := 57) h rfl
  refine ⟨zq_k_s1 16 (fun z => .bipush z) 6 h rfl (zq_o_16 _) (by decide +kernel), ?_⟩
  replace h := zq_nx2 (q := 59) h rfl
  refine ⟨zq_k_s2 162 (fun z => .if_icmp .ge z) 32 h rfl (zq_o_162 _) (by decide +kernel), ?_⟩
  replace h := zq_nx3 (q := 62) h rfl
  refine ⟨zq_k_n 42 h rfl (zq_o_42 _), ?_⟩
  replace h := zq_nx1 (q := 63) h rfl
  refine ⟨zq_k_u2 180 (fun z => .getfield z) 75 h rfl (zq_o_180 _) (by decide +kernel), ?_⟩
  replace h := zq_nx3 (q := 66) h rfl
  refine ⟨zq_k_s1 16 (fun z => .bipush z) 36 h rfl (zq_o_16 _) (by decide +kernel), ?_⟩
  replace h := zq_nx2 (q := 68) h rfl
  refine ⟨zq_k_u1 21 (fun z => .iload z) 5 h rfl (zq_o_21 _) (by decide +kernel), ?_⟩
  replace h := zq_nx2 (q := 70) h rfl
  refine ⟨zq_k_n 104 h rfl (zq_o_104 _), ?_⟩
  replace h := zq_nx1 (q := 71) h rfl
  refine ⟨zq_k_s1 16 (fun z => .bipush z) 6 h rfl (zq_o_16 _) (by decide +kernel), ?_⟩
  replace h := zq_nx2 (q := 73) h rfl
  refine ⟨zq_k_u1 21 (fun z => .iload z) 6 h rfl (zq_o_21 _) (by decide +kernel), ?_⟩
  replace h := zq_nx2 (q := 75) h rfl
  refine ⟨zq_k_n 104 h rfl (zq_o_104 _), ?_⟩
  replace h := zq_nx1 (q := 76) h rfl
  refine ⟨zq_k_n 96 h rfl (zq_o_96 _), ?_⟩
  replace h := zq_nx1 (q := 77) h rfl
  refine ⟨zq_k_u1 21 (fun z => .iload z) 7 h rfl (zq_o_21 _) (by decide +kernel), ?_⟩
  replace h := zq_nx2 (q := 79) h rfl
  refine ⟨zq_k_n 96 h rfl (zq_o_96 _), ?_⟩
  replace h := zq_nx1 (q := 80) h rfl
  refine ⟨zq_k_n 92 h rfl (zq_o_92 _), ?_⟩
  replace h := zq_nx1 (q := 81) h rfl
  refine ⟨zq_k_n 47 h rfl (zq_o_47 _), ?_⟩
  replace h := zq_nx1 (q := 82) h rfl
  exact zq_k_n 42 h rfl (zq_o_42 _)
theorem d_M_addsTables_39 : decode prog_10_method_77_code 39 = .ok (.istore 7, 2) := dd_M_addsTables_39.1
theorem d_M_addsTables_41 : decode prog_10_method_77_code 41 = .ok (.iload 5, 2) := dd_M_addsTables_39.2.1
theorem d_M_addsTables_43 : decode prog_10_method_77_code 43 = .ok (.bipush 6, 2) := dd_M_addsTables_39.2.2.1
theorem d_M_addsTables_45 : decode prog_10_method_77_code 45 = .ok (.if_icmp .ge 46, 3) := dd_M_addsTables_39.2.2.2.1
theorem d_M_addsTables_48 : decode prog_10_method_77_code 48 = .ok (.iload 6, 2) := dd_M_addsTables_39.2.2.2.2.1
theorem d_M_addsTables_50 : decode prog_10_method_77_code 50 = .ok (.bipush 6, 2) := dd_M_addsTables_39.2.2.2.2.2.1
theorem d_M_addsTables_52 : decode prog_10_method_77_code 52 = .ok (.if_icmp .ge 39, 3) := dd_M_addsTables_39.2.2.2.2.2.2.1
theorem d_M_addsTables_55 : decode prog_10_method_77_code 55 = .ok (.iload 7, 2) := dd_M_addsTables_39.2.2.2.2.2.2.2.1
theorem d_M_addsTables_57 : decode prog_10_method_77_code 57 = .ok (.bipush 6, 2) := dd_M_addsTables_39.2.2.2.2.2.2.2.2.1
theorem d_M_addsTables_59 : decode prog_10_method_77_code 59 = .ok (.if_icmp .ge 32, 3) := dd_M_addsTables_39.2.2.2.2.2.2.2.2.2.1
theorem d_M_addsTables_62 : decode prog_10_method_77_code 62 = .ok (.aload_n 0, 1) := dd_M_addsTables_39.2.2.2.2.2.2.2.2.2.2.1
theorem d_M_addsTables_63 : decode prog_10_method_77_code 63 = .ok (.getfield 75, 3) := dd_M_addsTables_39.2.2.2.2.2.2.2.2.2.2.2.1
theorem d_M_addsTables_66 : decode prog_10_method_77_code 66 = .ok (.bipush 36, 2) := dd_M_addsTables_39.2.2.2.2.2.2.2.2.2.2.2.2.1
theorem d_M_addsTables_68 : decode prog_10_method_77_code 68 = .ok (.iload 5, 2) := dd_M_addsTables_39.2.2.2.2.2.2.2.2.2.2.2.2.2.1
theorem d_M_addsTables_70 : decode prog_10_method_77_code 70 = .ok (.imul, 1) := dd_M_addsTables_39.2.2.2.2.2.2.2.2.2.2.2.2.2.2.1
theorem d_M_addsTables_71 : decode prog_10_method_77_code 71 = .ok (.bipush 6, 2) := dd_M_addsTables_39.2.2.2.2.2.2.2.2.2.2.2.2.2.2.2.1
theorem d_M_addsTables_73 : decode prog_10_method_77_code 73 = .ok (.iload 6, 2) := dd_M_addsTables_39.2.2.2.2.2.2.2.2.2.2.2.2.2.2.2.2.1
theorem d_M_addsTables_75 : decode prog_10_method_77_code 75 = .ok (.imul, 1) := dd_M_addsTables_39.2.2.2.2.2.2.2.2.2.2.2.2.2.2.2.2.2.1
theorem d_M_addsTables_76 : decode prog_10_method_77_code 76 = .ok (.iadd, 1) := dd_M_addsTables_39.2.2.2.2.2.2.2.2.2.2.2.2.2.2.2.2.2.2.1
theorem d_M_addsTables_77 : decode prog_10_method_77_code 77 = .ok (.iload 7, 2) := dd_M_addsTables_39.2.2.2.2.2.2.2.2.2.2.2.2.2.2.2.2.2.2.2.1
theorem d_M_addsTables_79 : decode prog_10_method_77_code 79 = .ok (.iadd, 1) := dd_M_addsTables_39.2.2.2.2.2.2.2.2.2.2.2.2.2.2.2.2.2.2.2.2.1
theorem d_M_addsTables_80 : decode prog_10_method_77_code 80 = .ok (.dup2, 1) := dd_M_addsTables_39.2.2.2.2.2.2.2.2.2.2.2.2.2.2.2.2.2.2.2.2.2.1
theorem d_M_addsTables_81 : decode prog_10_method_77_code 81 = .ok (.laload, 1) := dd_M_addsTables_39.2.2.2.2.2.2.2.2.2.2.2.2.2.2.2.2.2.2.2.2.2.2.1
theorem d_M_addsTables_82 : decode prog_10_method_77_code 82 = .ok (.aload_n 0, 1) := dd_M_addsTables_39.2.2.2.2.2.2.2.2.2.2.2.2.2.2.2.2.2.2.2.2.2.2.2
set_option maxRecDepth 100000 in
theorem dd_M_addsTables_83 : (decode prog_10_method_77_code 83 = .ok (.getfield 72, 3)) ∧ (decode prog_10_method_77_code 86 = .ok (.iload 4, 2)) ∧ (decode prog_10_method_77_code 88 = .ok (.laload, 1)) ∧ (decode prog_10_method_77_code 89 = .ok (.ladd, 1)) ∧ (decode prog_10_method_77_code 90 = .ok (.lastore, 1)) ∧ (decode prog_10_method_77_code 91 = .ok (.iinc 4 1, 3)) ∧ (decode prog_10_method_77_code 94 = .ok (.goto (-91), 3)) ∧ (decode prog_10_method_77_code 97 = .ok (.return_, 1)) := by
  have h : List.drop 83 prog_10_method_77_code.data.toList = 0xb4 :: _ := rfl
  refine ⟨zq_k_u2 180 (fun z => .getfield z) 72 h rfl (zq_o_180 _) (by decide +kernel), ?_⟩
  replace h := zq_nx3 (q := 86) h rfl
  refine ⟨zq_k_u1 21 (fun z => .iload z) 4 h rfl (zq_o_21 _) (by decide +kernel), ?_⟩
  replace h := zq_nx2 (q := 88) h rfl
  refine ⟨zq_k_n 47 h rfl (zq_o_47 _), ?_⟩
  replace h := zq_nx1 (q := 89) h rfl
  refine ⟨zq_k_n 97 h rfl (zq_o_97 _), ?_⟩
  replace h := zq_nx1 (q := 90) h rfl
  refine ⟨zq_k_n 80 h rfl (zq_o_80 _), ?_⟩
  replace h := zq_nx1 (q := 91) h rfl
  refine ⟨zq_k_iinc 4 1 h rfl (zq_o_132 _) (by decide +kernel) (by decide +kernel), ?_⟩
  replace h := zq_nx3 (q := 94) h rfl
  refine ⟨zq_k_s2 167 (fun z => .goto z) (-91) h rfl (zq_o_167 _) (by decide +kernel), ?_⟩
  replace h := zq_nx3 (q := 97) h rfl
  exact zq_k_n 177 h rfl (zq_o_177 _)
theorem d_M_addsTables_83 : decode prog_10_method_77_code 83 = .ok (.getfield 72, 3) := dd_M_addsTables_83.1
theorem d_M_addsTables_86 : decode prog_10_method_77_code 86 = .ok (.iload 4, 2) := dd_M_addsTables_83.2.1
theorem d_M_addsTables_88 : decode prog_10_method_77_code 88 = .ok (.laload, 1) := dd_M_addsTables_83.2.2.1
theorem d_M_addsTables_89 : decode prog_10_method_77_code 89 = .ok (.ladd, 1) := dd_M_addsTables_83.2.2.2.1
theorem d_M_addsTables_90 : decode prog_10_method_77_code 90 = .ok (.lastore, 1) := dd_M_addsTables_83.2.2.2.2.1
theorem d_M_addsTables_91 : decode prog_10_method_77_code 91 = .ok (.iinc 4 1, 3) := dd_M_addsTables_83.2.2.2.2.2.1
theorem d_M_addsTables_94 : decode prog_10_method_77_code 94 = .ok (.goto (-91), 3) := dd_M_addsTables_83.2.2.2.2.2.2.1
theorem d_M_addsTables_97 : decode prog_10_method_77_code 97 = .ok (.return_, 1) := dd_M_addsTables_83.2.2.2.2.2.2.2
def f_M_addsTables_91 (rec3 : Nat → Int32 → Int32 → Int32 → Int32 → mH → Option mH) (b0 : Nat) (b1 : Int32) (b2 : Int32) (b3 : Int32) (b4 : Int32) (h : mH) : Option mH :=
  rec3 b0 b1 b2 b3 (b4 + (1 : Int32)) h
set_option maxRecDepth 20000 in
theorem t_M_addsTables_91 {sc : Nat × (Nat → Int32)} (rec3 : Nat → Int32 → Int32 → Int32 → Int32 → mH → Option mH) (hrec3 : ∀ (b0 : Nat) (b1 : Int32) (b2 : Int32) (b3 : Int32) (b4 : Int32) (h : mH) (h' : mH), rec3 b0 b1 b2 b3 b4 h = some h' → G sc y_M_addsTables prog_10_method_77_code 8 none 0 0 3 [(0, .ref b0), (1, .int b1), (2, .int b2), (3, .int b3), (4, .int b4)] [] h none h') (b0 : Nat) (b1 : Int32) (b2 : Int32) (b3 : Int32) (b4 : Int32) (h : mH) (h' : mH) (hf : f_M_addsTables_91 rec3 b0 b1 b2 b3 b4 h = some h') : G sc y_M_addsTables prog_10_method_77_code 8 none 0 0 91 [(0, .ref b0), (1, .int b1), (2, .int b2), (3, .int b3), (4, .int b4)] [] h none h' := by
  unfold f_M_addsTables_91 at hf
  refine g_iinc (pc := 91) 4 (b4 + (1 : Int32)) [(4, .int (b4 + (1 : Int32))), (0, .ref b0), (1, .int b1), (2, .int b2), (3, .int b3)] d_M_addsTables_91 rfl rfl (Nat.le_of_ble_eq_true rfl) rfl ?_
  refine g_goto (pc := 94) 3 d_M_addsTables_94 (by decide) ?_
  refine g_lv [1, 2, 3, 4, 0] rfl ?_
  exact hrec3 _ _ _ _ _ _ _  hf
def f_M_addsTables_3b (rec3 : Nat → Int32 → Int32 → Int32 → Int32 → mH → Option mH) (b0 : Nat) (b1 : Int32) (b2 : Int32) (b3 : Int32) (b4 : Int32) (h : mH) : Option mH :=
  if (216 : Int32) ≤ b4 then
    some h
  else
    if (6 : Int32) ≤ ((b4 / (36 : Int32)) + b1) then
      f_M_addsTables_91 rec3 b0 b1 b2 b3 b4 h
    else
      if (6 : Int32) ≤ (((b4 / (6 : Int32)) - (b4 / (6 : Int32)) / (6 : Int32) * (6 : Int32)) + b2) then
        f_M_addsTables_91 rec3 b0 b1 b2 b3 b4 h
      else
        if (6 : Int32) ≤ ((b4 - b4 / (6 : Int32) * (6 : Int32)) + b3) then
          f_M_addsTables_91 rec3 b0 b1 b2 b3 b4 h
        else
          bd1 (gR h b0 8 34) fun x1 =>
          bd1 (aL h x1 ((((36 : Int32) * ((b4 / (36 : Int32)) + b1)) + ((6 : Int32) * (((b4 / (6 : Int32)) - (b4 / (6 : Int32)) / (6 : Int32) * (6 : Int32)) + b2))) + ((b4 - b4 / (6 : Int32) * (6 : Int32)) + b3))) fun x3 =>
          bd1 (gR h b0 8 33) fun x5 =>
          bd1 (aL h x5 b4) fun x7 =>
          bd1 (sL h x1 ((((36 : Int32) * ((b4 / (36 : Int32)) + b1)) + ((6 : Int32) * (((b4 / (6 : Int32)) - (b4 / (6 : Int32)) / (6 : Int32) * (6 : Int32)) + b2))) + ((b4 - b4 / (6 : Int32) * (6 : Int32)) + b3)) (x3 + x7)) fun h9 =>
          f_M_addsTables_91 rec3 b0 b1 b2 b3 b4 h9
set_option maxRecDepth 20000 in
theorem t_M_addsTables_3b {sc : Nat × (Nat → Int32)} (rec3 : Nat → Int32 → Int32 → Int32 → Int32 → mH → Option mH) (hrec3 : ∀ (b0 : Nat) (b1 : Int32) (b2 : Int32) (b3 : Int32) (b4 : Int32) (h : mH) (h' : mH), rec3 b0 b1 b2 b3 b4 h = some h' → G sc y_M_addsTables prog_10_method_77_code 8 none 0 0 3 [(0, .ref b0), (1, .int b1), (2, .int b2), (3, .int b3), (4, .int b4)] [] h none h') (b0 : Nat) (b1 : Int32) (b2 : Int32) (b3 : Int32) (b4 : Int32) (h : mH) (h' : mH) (hf : f_M_addsTables_3b rec3 b0 b1 b2 b3 b4 h = some h') : G sc y_M_addsTables prog_10_method_77_code 8 none 0 0 3 [(0, .ref b0), (1, .int b1), (2, .int b2), (3, .int b3), (4, .int b4)] [] h none h' := by
  unfold f_M_addsTables_3b at hf
  refine g_iload (pc := 3) 4 d_M_addsTables_3 rfl ?_
  refine g_sipush (pc := 5) (216 : Int32) d_M_addsTables_5 (by decide) ?_
  refine g_icmpge (pc := 8) 97 d_M_addsTables_8 (by decide) (fun c14 => ?_) (fun c14 => ?_)
  · replace hf := (if_pos c14).symm.trans hf
    obtain rfl := ret1 hf
    exact g_vret (pc := 97) rfl d_M_addsTables_97
  · replace hf := (if_neg c14).symm.trans hf
    refine g_iload (pc := 11) 4 d_M_addsTables_11 rfl ?_
    refine g_bipush (pc := 13) (36 : Int32) d_M_addsTables_13 (by decide) ?_
    refine g_idiv (pc := 15) d_M_addsTables_15 (by decide) ?_
    refine g_iload_n (pc := 16) 1 d_M_addsTables_16 rfl rfl ?_
    refine g_iadd (pc := 17) d_M_addsTables_17 ?_
    refine g_istore (pc := 18) [(5, .int ((b4 / (36 : Int32)) + b1)), (0, .ref b0), (1, .int b1), (2, .int b2), (3, .int b3), (4, .int b4)] d_M_addsTables_18 (Nat.le_of_ble_eq_true rfl) rfl ?_
    refine g_iload (pc := 20) 5 d_M_addsTables_20 rfl ?_
    refine g_bipush (pc := 22) (6 : Int32) d_M_addsTables_22 (by decide) ?_
    refine g_idiv (pc := 24) d_M_addsTables_24 (by decide) ?_
    refine g_bipush (pc := 25) (6 : Int32) d_M_addsTables_25 (by decide) ?_
    refine g_irem (pc := 27) d_M_addsTables_27 (by decide) ?_
    refine g_iload_n (pc := 28) 3 d_M_addsTables_28 rfl rfl ?_
    refine g_iadd (pc := 29) d_M_addsTables_29 ?_
    refine g_istore (pc := 30) [(6, .int (((b4 / (6 : Int32)) - (b4 / (6 : Int32)) / (6 : Int32) * (6 : Int32)) + b2)), (5, .int ((b4 / (36 : Int32)) + b1)), (0, .ref b0), (1, .int b1), (2, .int b2), (3, .int b3), (4, .int b4)] d_M_addsTables_30 (Nat.le_of_ble_eq_true rfl) rfl ?_
    refine g_iload (pc := 32) 6 d_M_addsTables_32 rfl ?_
    refine g_bipush (pc := 34) (6 : Int32) d_M_addsTables_34 (by decide) ?_
    refine g_irem (pc := 36) d_M_addsTables_36 (by decide) ?_
    refine g_iload_n (pc := 37) 5 d_M_addsTables_37 rfl rfl ?_
    refine g_iadd (pc := 38) d_M_addsTables_38 ?_
    refine g_istore (pc := 39) [(7, .int ((b4 - b4 / (6 : Int32) * (6 : Int32)) + b3)), (6, .int (((b4 / (6 : Int32)) - (b4 / (6 : Int32)) / (6 : Int32) * (6 : Int32)) + b2)), (5, .int ((b4 / (36 : Int32)) + b1)), (0, .ref b0), (1, .int b1), (2, .int b2), (3, .int b3), (4, .int b4)] d_M_addsTables_39 (Nat.le_of_ble_eq_true rfl) rfl ?_
    refine g_iload (pc := 41) 2 d_M_addsTables_41 rfl ?_
    refine g_bipush (pc := 43) (6 : Int32) d_M_addsTables_43 (by decide) ?_
    refine g_icmpge (pc := 45) 91 d_M_addsTables_45 (by decide) (fun c13 => ?_) (fun c13 => ?_)
    · replace hf := (if_pos c13).symm.trans hf
      refine g_lv [3, 4, 5, 6, 7] rfl ?_
      exact t_M_addsTables_91 rec3 hrec3 _ _ _ _ _ _ _  hf
    · replace hf := (if_neg c13).symm.trans hf
      refine g_iload (pc := 48) 1 d_M_addsTables_48 rfl ?_
      refine g_bipush (pc := 50) (6 : Int32) d_M_addsTables_50 (by decide) ?_
      refine g_icmpge (pc := 52) 91 d_M_addsTables_52 (by decide) (fun c12 => ?_) (fun c12 => ?_)
      · replace hf := (if_pos c12).symm.trans hf
        refine g_lv [3, 4, 5, 6, 7] rfl ?_
        exact t_M_addsTables_91 rec3 hrec3 _ _ _ _ _ _ _  hf
      · replace hf := (if_neg c12).symm.trans hf
        refine g_iload (pc := 55) 0 d_M_addsTables_55 rfl ?_
        refine g_bipush (pc := 57) (6 : Int32) d_M_addsTables_57 (by decide) ?_
        refine g_icmpge (pc := 59) 91 d_M_addsTables_59 (by decide) (fun c11 => ?_) (fun c11 => ?_)
        · replace hf := (if_pos c11).symm.trans hf
          refine g_lv [3, 4, 5, 6, 7] rfl ?_
          exact t_M_addsTables_91 rec3 hrec3 _ _ _ _ _ _ _  hf
        · replace hf := (if_neg c11).symm.trans hf
          refine g_aload_n (pc := 62) 3 d_M_addsTables_62 rfl rfl ?_
          obtain ⟨x1, e2, hf⟩ := bd1_e hf
          refine g_get (pc := 63) (ci := 8) (kk := 34) d_M_addsTables_63 rfl in_M (by decide) wd_972 (gR_spec e2) ?_
          refine g_bipush (pc := 66) (36 : Int32) d_M_addsTables_66 (by decide) ?_
          refine g_iload (pc := 68) 2 d_M_addsTables_68 rfl ?_
          refine g_imul (pc := 70) d_M_addsTables_70 ?_
          refine g_bipush (pc := 71) (6 : Int32) d_M_addsTables_71 (by decide) ?_
          refine g_iload (pc := 73) 1 d_M_addsTables_73 rfl ?_
          refine g_imul (pc := 75) d_M_addsTables_75 ?_
          refine g_iadd (pc := 76) d_M_addsTables_76 ?_
          refine g_iload (pc := 77) 0 d_M_addsTables_77 rfl ?_
          refine g_iadd (pc := 79) d_M_addsTables_79 ?_
          refine g_dup2 (pc := 80) d_M_addsTables_80 rfl rfl ?_
          obtain ⟨x3, e4, hf⟩ := bd1_e hf
          refine g_lald (pc := 81) d_M_addsTables_81 e4 ?_
          refine g_aload_n (pc := 82) 3 d_M_addsTables_82 rfl rfl ?_
          obtain ⟨x5, e6, hf⟩ := bd1_e hf
          refine g_get (pc := 83) (ci := 8) (kk := 33) d_M_addsTables_83 rfl in_M (by decide) wd_971 (gR_spec e6) ?_
          refine g_iload (pc := 86) 7 d_M_addsTables_86 rfl ?_
          obtain ⟨x7, e8, hf⟩ := bd1_e hf
          refine g_lald (pc := 88) d_M_addsTables_88 e8 ?_
          refine g_ladd (pc := 89) d_M_addsTables_89 ?_
          obtain ⟨h9, e10, hf⟩ := bd1_e hf
          refine g_last (pc := 90) d_M_addsTables_90 e10 ?_
          refine g_lv [3, 4, 5, 6, 7] rfl ?_
          exact t_M_addsTables_91 rec3 hrec3 _ _ _ _ _ _ _  hf
def f_M_addsTables_3  : Nat → Nat → Int32 → Int32 → Int32 → Int32 → mH → Option mH
  | 0 => fun _ _ _ _ _ _ => none
  | n + 1 => f_M_addsTables_3b  (f_M_addsTables_3  n)
theorem t_M_addsTables_3 {sc : Nat × (Nat → Int32)}  : ∀ (n : Nat) (b0 : Nat) (b1 : Int32) (b2 : Int32) (b3 : Int32) (b4 : Int32) (h : mH) (h' : mH) (hf : f_M_addsTables_3  n b0 b1 b2 b3 b4 h = some h'), G sc y_M_addsTables prog_10_method_77_code 8 none 0 0 3 [(0, .ref b0), (1, .int b1), (2, .int b2), (3, .int b3), (4, .int b4)] [] h none h'
  | 0, _, _, _, _, _, _, _, hf => by cases hf
  | n + 1, _, _, _, _, _, _, _, hf => t_M_addsTables_3b  (f_M_addsTables_3  n) (t_M_addsTables_3  n) _ _ _ _ _ _ _ hf
def f_M_addsTables_0  (a0 : Nat) (a1 : Int32) (a2 : Int32) (a3 : Int32) (h : mH) : Option mH :=
  f_M_addsTables_3  FU a0 a1 a2 a3 (0 : Int32) h
set_option maxRecDepth 20000 in
theorem t_M_addsTables_0 {sc : Nat × (Nat → Int32)}  (a0 : Nat) (a1 : Int32) (a2 : Int32) (a3 : Int32) (h : mH) (h' : mH) (hf : f_M_addsTables_0  a0 a1 a2 a3 h = some h') : G sc y_M_addsTables prog_10_method_77_code 8 none 0 0 0 [(0, .ref a0), (1, .int a1), (2, .int a2), (3, .int a3)] [] h none h' := by
  unfold f_M_addsTables_0 at hf
  refine g_iconst (pc := 0) (0 : Int32) d_M_addsTables_0 (by decide) ?_
  refine g_istore (pc := 1) [(4, .int (0 : Int32)), (0, .ref a0), (1, .int a1), (2, .int a2), (3, .int a3)] d_M_addsTables_1 (Nat.le_of_ble_eq_true rfl) rfl ?_
  refine g_lv [1, 2, 3, 4, 0] rfl ?_
  exact t_M_addsTables_3  FU _ _ _ _ _ _ _  hf
def f_M_addsTables (a0 : Nat) (a1 : Int32) (a2 : Int32) (a3 : Int32) (h : mH) : Option mH := f_M_addsTables_0 a0 a1 a2 a3 h
theorem c_M_addsTables {sc : Nat × (Nat → Int32)} {a0 : Nat} {a1 : Int32} {a2 : Int32} {a3 : Int32} {h : mH} {h' : mH} (hf : f_M_addsTables a0 a1 a2 a3 h = some h') : MM sc y_M_addsTables prog_10_method_77_code 8 none 0 0 [.ref a0, .int a1, .int a2, .int a3] h none h' :=
  mm_of_G (by decide) (Nat.le_of_ble_eq_true rfl) (t_M_addsTables_0 _ _ _ _ _ _ hf)
/-! M addsLaw (IIII)V -/
set_option maxRecDepth 100000 in
theorem dd_M_addsLaw_0 : (decode prog_10_method_76_code 0 = .ok (.iconst 0, 1)) ∧ (decode prog_10_method_76_code 1 = .ok (.istore 5, 2)) ∧ (decode prog_10_method_76_code 3 = .ok (.iload 5, 2)) ∧ (decode prog_10_method_76_code 5 = .ok (.sipush 216, 3)) ∧ (decode prog_10_method_76_code 8 = .ok (.if_icmp .ge 17, 3)) ∧ (decode prog_10_method_76_code 11 = .ok (.aload_n 0, 1)) ∧ (decode prog_10_method_76_code 12 = .ok (.getfield 75, 3)) ∧ (decode prog_10_method_76_code 15 = .ok (.iload 5, 2)) ∧ (decode prog_10_method_76_code 17 = .ok (.lconst 0, 1)) ∧ (decode prog_10_method_76_code 18 = .ok (.lastore, 1)) ∧ (decode prog_10_method_76_code 19 = .ok (.iinc 5 1, 3)) ∧ (decode prog_10_method_76_code 22 = .ok (.goto (-19), 3)) ∧ (decode prog_10_method_76_code 25 = .ok (.iconst 0, 1)) ∧ (decode prog_10_method_76_code 26 = .ok (.istore 5, 2)) ∧ (decode prog_10_method_76_code 28 = .ok (.iload 5, 2)) ∧ (decode prog_10_method_76_code 30 = .ok (.aload_n 0, 1)) ∧ (decode prog_10_method_76_code 31 = .ok (.iconst 0, 1)) ∧ (decode prog_10_method_76_code 32 = .ok (.iload_n 1, 1)) ∧ (decode prog_10_method_76_code 33 = .ok (.invokevirtual 294, 3)) ∧ (decode prog_10_method_76_code 36 = .ok (.if_icmp .gt 133, 3)) ∧ (decode prog_10_method_76_code 39 = .ok (.iconst 0, 1)) ∧ (decode prog_10_method_76_code 40 = .ok (.istore 6, 2)) ∧ (decode prog_10_method_76_code 42 = .ok (.iload 6, 2)) ∧ (decode prog_10_method_76_code 44 = .ok (.aload_n 0, 1)) := by
  have h : List.drop 0 prog_10_method_76_code.data.toList = 0x03 :: _ := rfl
  refine ⟨zq_k_n 3 h rfl (zq_o_3 _), ?_⟩
  replace h := zq_nx1 (q := 1) h rfl
  refine ⟨zq_k_u1 54 (fun z => .istore z) 5 h rfl (zq_o_54 _) (by decide +kernel), ?_⟩
  replace h := zq_nx2 (q := 3) h rfl
  refine ⟨zq_k_u1 21 (fun z => .iload z) 5 h rfl (zq_o_21 _) (by decide +kernel), ?_⟩
  replace h := zq_nx2 (q := 5) h rfl
  refine ⟨zq_k_s2 17 (fun z => .sipush z) 216 h rfl (zq_o_17 _) (by decide +kernel), ?_⟩
  replace h := zq_nx3 (q := 8) h rfl
  refine ⟨zq_k_s2 162 (fun z => .if_icmp .ge z) 17 h rfl (zq_o_162 _) (by decide +kernel), ?_⟩
  replace h := zq_nx3 (q := 11) h rfl
  refine ⟨zq_k_n 42 h rfl (zq_o_42 _), ?_⟩
  replace h := zq_nx1 (q := 12) h rfl
  refine ⟨zq_k_u2 180 (fun z => .getfield z) 75 h rfl (zq_o_180 _) (by decide +kernel), ?_⟩
  replace h := zq_nx3 (q := 15) h rfl
  refine ⟨zq_k_u1 21 (fun z => .iload z) 5 h rfl (zq_o_21 _) (by decide +kernel), ?_⟩
  replace h := zq_nx2 (q := 17) h rfl
  refine ⟨zq_k_n 9 h rfl (zq_o_9 _), ?_⟩
  replace h := zq_nx1 (q := 18) h rfl
  refine ⟨zq_k_n 80 h rfl (zq_o_80 _), ?_⟩
  replace h := zq_nx1 (q := 19) h rfl
  refine ⟨zq_k_iinc 5 1 h rfl (zq_o_132 _) (by decide +kernel) (by decide +kernel), ?_⟩
  replace h := zq_nx3 (q := 22) h rfl
  refine ⟨zq_k_s2 167 (fun z => .goto z) (-19) h rfl (zq_o_167 _) (by decide +kernel), ?_⟩
  replace h := zq_nx3 (q := 25) h rfl
  refine ⟨zq_k_n 3 h rfl (zq_o_3 _), ?_⟩
  replace h := zq_nx1 (q := 26) h rfl
  refine ⟨zq_k_u1 54 (fun z => .istore z) 5 h rfl (zq_o_54 _) (by decide +kernel), ?_⟩
  replace h := zq_nx2 (q := 28) h rfl
  refine ⟨zq_k_u1 21 (fun z => .iload z) 5 h rfl (zq_o_21 _) (by decide +kernel), ?_⟩
  replace h := zq_nx2 (q := 30) h rfl
  refine ⟨zq_k_n 42 h rfl (zq_o_42 _), ?_⟩
  replace h := zq_nx1 (q := 31) h rfl
  refine ⟨zq_k_n 3 h rfl (zq_o_3 _), ?_⟩
  replace h := zq_nx1 (q := 32) h rfl
  refine ⟨zq_k_n 27 h rfl (zq_o_27 _), ?_⟩
  replace h := zq_nx1 (q := 33) h rfl
  refine ⟨zq_k_u2 182 (fun z => .invokevirtual z) 294 h rfl (zq_o_182 _) (by decide +kernel), ?_⟩
  replace h := zq_nx3 (q := 36) h rfl
  refine ⟨zq_k_s2 163 (fun z => .if_icmp .gt z) 133 h rfl (zq_o_163 _) (by decide +kernel), ?_⟩
  replace h := zq_nx3 (q := 39) h rfl
  refine ⟨zq_k_n 3 h rfl (zq_o_3 _), ?_⟩
  replace h := zq_nx1 (q := 40) h rfl
  refine ⟨zq_k_u1 54 (fun z => .istore z) 6 h rfl (zq_o_54 _) (by decide +kernel), ?_⟩
  replace h := zq_nx2 (q := 42) h rfl
  refine ⟨zq_k_u1 21 (fun z => .iload z) 6 h rfl (zq_o_21 _) (by decide +kernel), ?_⟩
  replace h := zq_nx2 (q := 44) h rfl
  exact zq_k_n 42 h rfl (zq_o_42 _)
theorem d_M_addsLaw_0 : decode prog_10_method_76_code 0 = .ok (.iconst 0, 1) := dd_M_addsLaw_0.1
theorem d_M_addsLaw_1 : decode prog_10_method_76_code 1 = .ok (.istore 5, 2) := dd_M_addsLaw_0.2.1
theorem d_M_addsLaw_3 : decode prog_10_method_76_code 3 = .ok (.iload 5, 2) := dd_M_addsLaw_0.2.2.1
theorem d_M_addsLaw_5 : decode prog_10_method_76_code 5 = .ok (.sipush 216, 3) := dd_M_addsLaw_0.2.2.2.1
theorem d_M_addsLaw_8 : decode prog_10_method_76_code 8 = .ok (.if_icmp .ge 17, 3) := dd_M_addsLaw_0.2.2.2.2.1
theorem d_M_addsLaw_11 : decode prog_10_method_76_code 11 = .ok (.aload_n 0, 1) := dd_M_addsLaw_0.2.2.2.2.2.1
theorem d_M_addsLaw_12 : decode prog_10_method_76_code 12 = .ok (.getfield 75, 3) := dd_M_addsLaw_0.2.2.2.2.2.2.1
theorem d_M_addsLaw_15 : decode prog_10_method_76_code 15 = .ok (.iload 5, 2) := dd_M_addsLaw_0.2.2.2.2.2.2.2.1
theorem d_M_addsLaw_17 : decode prog_10_method_76_code 17 = .ok (.lconst 0, 1) := dd_M_addsLaw_0.2.2.2.2.2.2.2.2.1
theorem d_M_addsLaw_18 : decode prog_10_method_76_code 18 = .ok (.lastore, 1) := dd_M_addsLaw_0.2.2.2.2.2.2.2.2.2.1
theorem d_M_addsLaw_19 : decode prog_10_method_76_code 19 = .ok (.iinc 5 1, 3) := dd_M_addsLaw_0.2.2.2.2.2.2.2.2.2.2.1
theorem d_M_addsLaw_22 : decode prog_10_method_76_code 22 = .ok (.goto (-19), 3) := dd_M_addsLaw_0.2.2.2.2.2.2.2.2.2.2.2.1
theorem d_M_addsLaw_25 : decode prog_10_method_76_code 25 = .ok (.iconst 0, 1) := dd_M_addsLaw_0.2.2.2.2.2.2.2.2.2.2.2.2.1
theorem d_M_addsLaw_26 : decode prog_10_method_76_code 26 = .ok (.istore 5, 2) := dd_M_addsLaw_0.2.2.2.2.2.2.2.2.2.2.2.2.2.1
theorem d_M_addsLaw_28 : decode prog_10_method_76_code 28 = .ok (.iload 5, 2) := dd_M_addsLaw_0.2.2.2.2.2.2.2.2.2.2.2.2.2.2.1
theorem d_M_addsLaw_30 : decode prog_10_method_76_code 30 = .ok (.aload_n 0, 1) := dd_M_addsLaw_0.2.2.2.2.2.2.2.2.2.2.2.2.2.2.2.1
theorem d_M_addsLaw_31 : decode prog_10_method_76_code 31 = .ok (.iconst 0, 1) := dd_M_addsLaw_0.2.2.2.2.2.2.2.2.2.2.2.2.2.2.2.2.1
theorem d_M_addsLaw_32 : decode prog_10_method_76_code 32 = .ok (.iload_n 1, 1) := dd_M_addsLaw_0.2.2.2.2.2.2.2.2.2.2.2.2.2.2.2.2.2.1
theorem d_M_addsLaw_33 : decode prog_10_method_76_code 33 = .ok (.invokevirtual 294, 3) := dd_M_addsLaw_0.2.2.2.2.2.2.2.2.2.2.2.2.2.2.2.2.2.2.1
theorem d_M_addsLaw_36 : decode prog_10_method_76_code 36 = .ok (.if_icmp .gt 133, 3) := dd_M_addsLaw_0.2.2.2.2.2.2.2.2.2.2.2.2.2.2.2.2.2.2.2.1
theorem d_M_addsLaw_39 : decode prog_10_method_76_code 39 = .ok (.iconst 0, 1) := dd_M_addsLaw_0.2.2.2.2.2.2.2.2.2.2.2.2.2.2.2.2.2.2.2.2.1
theorem d_M_addsLaw_40 : decode prog_10_method_76_code 40 = .ok (.istore 6, 2) := dd_M_addsLaw_0.2.2.2.2.2.2.2.2.2.2.2.2.2.2.2.2.2.2.2.2.2.1
theorem d_M_addsLaw_42 : decode prog_10_method_76_code 42 = .ok (.iload 6, 2) := dd_M_addsLaw_0.2.2.2.2.2.2.2.2.2.2.2.2.2.2.2.2.2.2.2.2.2.2.1
theorem d_M_addsLaw_44 : decode prog_10_method_76_code 44 = .ok (.aload_n 0, 1) := dd_M_addsLaw_0.2.2.2.2.2.2.2.2.2.2.2.2.2.2.2.2.2.2.2.2.2.2.2
set_option maxRecDepth 100000 in
theorem dd_M_addsLaw_45 : (decode prog_10_method_76_code 45 = .ok (.iconst 1, 1)) ∧ (decode prog_10_method_76_code 46 = .ok (.iload_n 1, 1)) ∧ (decode prog_10_method_76_code 47 = .ok (.invokevirtual 294, 3)) ∧ (decode prog_10_method_76_code 50 = .ok (.if_icmp .gt 113, 3)) ∧ (decode prog_10_method_76_code 53 = .ok (.iconst 0, 1)) ∧ (decode prog_10_method_76_code 54 = .ok (.istore 7, 2)) ∧ (decode prog_10_method_76_code 56 = .ok (.iload 7, 2)) ∧ (decode prog_10_method_76_code 58 = .ok (.aload_n 0, 1)) ∧ (decode prog_10_method_76_code 59 = .ok (.iconst 2, 1)) ∧ (decode prog_10_method_76_code 60 = .ok (.iload_n 1, 1)) ∧ (decode prog_10_method_76_code 61 = .ok (.invokevirtual 294, 3)) ∧ (decode prog_10_method_76_code 64 = .ok (.if_icmp .gt 93, 3)) ∧ (decode prog_10_method_76_code 67 = .ok (.aload_n 0, 1)) ∧ (decode prog_10_method_76_code 68 = .ok (.iconst 1, 1)) ∧ (decode prog_10_method_76_code 69 = .ok (.iload_n 1, 1)) ∧ (decode prog_10_method_76_code 70 = .ok (.iload 5, 2)) ∧ (decode prog_10_method_76_code 72 = .ok (.iload 6, 2)) ∧ (decode prog_10_method_76_code 74 = .ok (.iadd, 1)) ∧ (decode prog_10_method_76_code 75 = .ok (.iload 7, 2)) ∧ (decode prog_10_method_76_code 77 = .ok (.iadd, 1)) ∧ (decode prog_10_method_76_code 78 = .ok (.invokevirtual 297, 3)) ∧ (decode prog_10_method_76_code 81 = .ok (.ifCond .eq 52, 3)) ∧ (decode prog_10_method_76_code 84 = .ok (.aload_n 0, 1)) ∧ (decode prog_10_method_76_code 85 = .ok (.iconst 0, 1)) := by
  have h : List.drop 45 prog_10_method_76_code.data.toList = 0x04 :: _ := rfl
  refine ⟨zq_k_n 4 h rfl (zq_o_4 _), ?_⟩
  replace h := zq_nx1 (q := 46) h rfl
  refine ⟨zq_k_n 27 h rfl (zq_o_27 _), ?_⟩
  replace h := zq_nx1 (q := 47) h rfl
  refine ⟨zq_k_u2 182 (fun z => .invokevirtual z) 294 h rfl (zq_o_182 _) (by decide +kernel), ?_⟩
  replace h := zq_nx3 (q := 50) h rfl
  refine ⟨zq_k_s2 163 (fun z => .if_icmp .gt z) 113 h rfl (zq_o_163 _) (by decide +kernel), ?_⟩
  replace h := zq_nx3 (q := 53) h rfl
  refine ⟨zq_k_n 3 h rfl (zq_o_3 _), ?_⟩
  replace h := zq_nx1 (q := 54) h rfl
  refine ⟨zq_k_u1 54 (fun z => .istore z) 7 h rfl (zq_o_54 _) (by decide +kernel), ?_⟩
  replace h := zq_nx2 (q := 56) h rfl
  refine ⟨zq_k_u1 21 (fun z => .iload z) 7 h rfl (zq_o_21 _) (by decide +kernel), ?_⟩
  replace h := zq_nx2 (q := 58) h rfl
  refine ⟨zq_k_n 42 h rfl (zq_o_42 _), ?_⟩
  replace h := zq_nx1 (q := 59) h rfl
  refine ⟨zq_k_n 5 h rfl (zq_o_5 _), ?_⟩
  replace h := zq_nx1 (q := 60) h rfl
  refine ⟨zq_k_n 27 h rfl (zq_o_27 _), ?_⟩
  replace h := zq_nx1 (q := 61) h rfl
  refine ⟨zq_k_u2 182 (fun z => .invokevirtual z) 294 h rfl (zq_o_182 _) (by decide +kernel), ?_⟩
  replace h := zq_nx3 (q := 64) h rfl
  refine ⟨zq_k_s2 163 (fun z => .if_icmp .gt z) 93 h rfl (zq_o_163 _) (by decide +kernel), ?_⟩
  replace h := zq_nx3 (q := 67) h rfl
  refine ⟨zq_k_n 42 h rfl (zq_o_42 _), ?_⟩
  replace h := zq_nx1 (q := 68) h rfl
  refine ⟨zq_k_n 4 h rfl (zq_o_4 _), ?_⟩
  replace h := zq_nx1 (q := 69) h rfl
  refine ⟨zq_k_n 27 h rfl (zq_o_27 _), ?_⟩
  replace h := zq_nx1 (q := 70) h rfl
  refine ⟨zq_k_u1 21 (fun z => .iload z) 5 h rfl (zq_o_21 _) (by decide +kernel), ?_⟩
  replace h := zq_nx2 (q := 72) h rfl
  refine ⟨zq_k_u1 21 (fun z => .iload z) 6 h rfl (zq_o_21 _) (by decide +kernel), ?_⟩
  replace h := zq_nx2 (q := 74) h rfl
  refine ⟨zq_k_n 96 h rfl (zq_o_96 _), ?_⟩
  replace h := zq_nx1 (q := 75) h rfl
  refine ⟨zq_k_u1 21 (fun z => .iload z) 7 h rfl (zq_o_21 _) (by decide +kernel), ?_⟩
  replace h := zq_nx2 (q := 77) h rfl
  refine ⟨zq_k_n 96 h rfl (zq_o_96 _), ?_⟩
  replace h := zq_nx1 (q := 78) h rfl
  refine ⟨zq_k_u2 182 (fun z => .invokevirtual z) 297 h rfl (zq_o_182 _) (by decide +kernel), ?_⟩
  replace h := zq_nx3 (q := 81) h rfl
  refine ⟨zq_k_s2 153 (fun z => .ifCond .eq z) 52 h rfl (zq_o_153 _) (by decide +kernel), ?_⟩
  replace h := zq_nx3 (q := 84) h rfl
  refine ⟨zq_k_n 42 h rfl (zq_o_42 _), ?_⟩
  replace h := zq_nx1 (q := 85) h rfl
  exact zq_k_n 3 h rfl (zq_o_3 _)
theorem d_M_addsLaw_45 : decode prog_10_method_76_code 45 = .ok (.iconst 1, 1) := dd_M_addsLaw_45.1
theorem d_M_addsLaw_46 : decode prog_10_method_76_code 46 = .ok (.iload_n 1, 1) := dd_M_addsLaw_45.2.1
theorem d_M_addsLaw_47 : decode prog_10_method_76_code 47 = .ok (.invokevirtual 294, 3) := dd_M_addsLaw_45.2.2.1
theorem d_M_addsLaw_50 : decode prog_10_method_76_code 50 = .ok (.if_icmp .gt 113, 3) := dd_M_addsLaw_45.2.2.2.1
theorem d_M_addsLaw_53 : decode prog_10_method_76_code 53 = .ok (.iconst 0, 1) := dd_M_addsLaw_45.2.2.2.2.1
theorem d_M_addsLaw_54 : decode prog_10_method_76_code 54 = .ok (.istore 7, 2) := dd_M_addsLaw_45.2.2.2.2.2.1
theorem d_M_addsLaw_56 : decode prog_10_method_76_code 56 = .ok (.iload 7, 2) := dd_M_addsLaw_45.2.2.2.2.2.2.1
theorem d_M_addsLaw_58 : decode prog_10_method_76_code 58 = .ok (.aload_n 0, 1) := dd_M_addsLaw_45.2.2.2.2.2.2.2.1
theorem d_M_addsLaw_59 : decode prog_10_method_76_code 59 = .ok (.iconst 2, 1) := dd_M_addsLaw_45.2.2.2.2.2.2.2.2.1
theorem d_M_addsLaw_60 : decode prog_10_method_76_code 60 = .ok (.iload_n 1, 1) := dd_M_addsLaw_45.2.2.2.2.2.2.2.2.2.1
theorem d_M_addsLaw_61 : decode prog_10_method_76_code 61 = .ok (.invokevirtual 294, 3) := dd_M_addsLaw_45.2.2.2.2.2.2.2.2.2.2.1
theorem d_M_addsLaw_64 : decode prog_10_method_76_code 64 = .ok (.if_icmp .gt 93, 3) := dd_M_addsLaw_45.2.2.2.2.2.2.2.2.2.2.2.1
theorem d_M_addsLaw_67 : decode prog_10_method_76_code 67 = .ok (.aload_n 0, 1) := dd_M_addsLaw_45.2.2.2.2.2.2.2.2.2.2.2.2.1
theorem d_M_addsLaw_68 : decode prog_10_method_76_code 68 = .ok (.iconst 1, 1) := dd_M_addsLaw_45.2.2.2.2.2.2.2.2.2.2.2.2.2.1
theorem d_M_addsLaw_69 : decode prog_10_method_76_code 69 = .ok (.iload_n 1, 1) := dd_M_addsLaw_45.2.2.2.2.2.2.2.2.2.2.2.2.2.2.1
theorem d_M_addsLaw_70 : decode prog_10_method_76_code 70 = .ok (.iload 5, 2) := dd_M_addsLaw_45.2.2.2.2.2.2.2.2.2.2.2.2.2.2.2.1
theorem d_M_addsLaw_72 : decode prog_10_method_76_code 72 = .ok (.iload 6, 2) := dd_M_addsLaw_45.2.2.2.2.2.2.2.2.2.2.2.2.2.2.2.2.1
theorem d_M_addsLaw_74 : decode prog_10_method_76_code 74 = .ok (.iadd, 1) := dd_M_addsLaw_45.2.2.2.2.2.2.2.2.2.2.2.2.2.2.2.2.2.1
theorem d_M_addsLaw_75 : decode prog_10_method_76_code 75 = .ok (.iload 7, 2) := dd_M_addsLaw_45.2.2.2.2.2.2.2.2.2.2.2.2.2.2.2.2.2.2.1
theorem d_M_addsLaw_77 : decode prog_10_method_76_code 77 = .ok (.iadd, 1) := dd_M_addsLaw_45.2.2.2.2.2.2.2.2.2.2.2.2.2.2.2.2.2.2.2.1
theorem d_M_addsLaw_78 : decode prog_10_method_76_code 78 = .ok (.invokevirtual 297, 3) := dd_M_addsLaw_45.2.2.2.2.2.2.2.2.2.2.2.2.2.2.2.2.2.2.2.2.1
theorem d_M_addsLaw_81 : decode prog_10_method_76_code 81 = .ok (.ifCond .eq 52, 3) := dd_M_addsLaw_45.2.2.2.2.2.2.2.2.2.2.2.2.2.2.2.2.2.2.2.2.2.1
theorem d_M_addsLaw_84 : decode prog_10_method_76_code 84 = .ok (.aload_n 0, 1) := dd_M_addsLaw_45.2.2.2.2.2.2.2.2.2.2.2.2.2.2.2.2.2.2.2.2.2.2.1
theorem d_M_addsLaw_85 : decode prog_10_method_76_code 85 = .ok (.iconst 0, 1) := dd_M_addsLaw_45.2.2.2.2.2.2.2.2.2.2.2.2.2.2.2.2.2.2.2.2.2.2.2
set_option maxRecDepth 100000 in
theorem dd_M_addsLaw_86 : (decode prog_10_method_76_code 86 = .ok (.iload_n 1, 1)) ∧ (decode prog_10_method_76_code 87 = .ok (.iload 5, 2)) ∧ (decode prog_10_method_76_code 89 = .ok (.iload_n 2, 1)) ∧ (decode prog_10_method_76_code 90 = .ok (.iload_n 3, 1)) ∧ (decode prog_10_method_76_code 91 = .ok (.iload 4, 2)) ∧ (decode prog_10_method_76_code 93 = .ok (.invokevirtual 301, 3)) ∧ (decode prog_10_method_76_code 96 = .ok (.ifCond .eq 37, 3)) ∧ (decode prog_10_method_76_code 99 = .ok (.aload_n 0, 1)) ∧ (decode prog_10_method_76_code 100 = .ok (.iconst 1, 1)) ∧ (decode prog_10_method_76_code 101 = .ok (.iload_n 1, 1)) ∧ (decode prog_10_method_76_code 102 = .ok (.iload 6, 2)) ∧ (decode prog_10_method_76_code 104 = .ok (.iload_n 2, 1)) ∧ (decode prog_10_method_76_code 105 = .ok (.iload_n 3, 1)) ∧ (decode prog_10_method_76_code 106 = .ok (.iload 4, 2)) ∧ (decode prog_10_method_76_code 108 = .ok (.invokevirtual 301, 3)) ∧ (decode prog_10_method_76_code 111 = .ok (.ifCond .eq 22, 3)) ∧ (decode prog_10_method_76_code 114 = .ok (.aload_n 0, 1)) ∧ (decode prog_10_method_76_code 115 = .ok (.iconst 2, 1)) ∧ (decode prog_10_method_76_code 116 = .ok (.iload_n 1, 1)) ∧ (decode prog_10_method_76_code 117 = .ok (.iload 7, 2)) ∧ (decode prog_10_method_76_code 119 = .ok (.iload_n 2, 1)) ∧ (decode prog_10_method_76_code 120 = .ok (.iload_n 3, 1)) ∧ (decode prog_10_method_76_code 121 = .ok (.iload 4, 2)) ∧ (decode prog_10_method_76_code 123 = .ok (.invokevirtual 301, 3)) := by
  have h : List.drop 86 prog_10_method_76_code.data.toList = 0x1b :: _ := rfl
  refine ⟨zq_k_n 27 h rfl (zq_o_27 _), ?_⟩
  replace h := zq_nx1 (q := 87) h rfl
  refine ⟨zq_k_u1 21 (fun z => .iload z) 5 h rfl (zq_o_21 _) (by decide +kernel), ?_⟩
  replace h := zq_nx2 (q := 89) h rfl
  refine ⟨zq_k_n 28 h rfl (zq_o_28 _), ?_⟩
  replace h := zq_nx1 (q := 90) h rfl
  refine ⟨zq_k_n 29 h rfl (zq_o_29 _), ?_⟩
  replace h := zq_nx1 (q := 91) h rfl
  refine ⟨zq_k_u1 21 (fun z => .iload z) 4 h rfl (zq_o_21 _) (by decide +kernel), ?_⟩
  replace h := zq_nx2 (q := 93) h rfl
  refine ⟨zq_k_u2 182 (fun z => .invokevirtual z) 301 h rfl (zq_o_182 _) (by decide +kernel), ?_⟩
  replace h := zq_nx3 (q := 96) h rfl
  refine ⟨zq_k_s2 153 (fun z => .ifCond .eq z) 37 h rfl (zq_o_153 _) (by decide +kernel), ?_⟩
  replace h := zq_nx3 (q := 99) h rfl
  refine ⟨zq_k_n 42 h rfl (zq_o_42 _), ?_⟩
  replace h := zq_nx1 (q := 100) h rfl
  refine ⟨zq_k_n 4 h rfl (zq_o_4 _), ?_⟩
  replace h := zq_nx1 (q := 101) h rfl
  refine ⟨zq_k_n 27 h rfl (zq_o_27 _), ?_⟩
  replace h := zq_nx1 (q := 102) h rfl
  refine ⟨zq_k_u1 21 (fun z => .iload z) 6 h rfl (zq_o_21 _) (by decide +kernel), ?_⟩
  replace h := zq_nx2 (q := 104) h rfl
  refine ⟨zq_k_n 28 h rfl (zq_o_28 _), ?_⟩
  replace h := zq_nx1 (q := 105) h rfl
  refine ⟨zq_k_n 29 h rfl (zq_o_29 _), ?_⟩
  replace h := zq_nx1 (q := 106) h rfl
  refine ⟨zq_k_u1 21 (fun z => .iload z) 4 h rfl (zq_o_21 _) (by decide +kernel), ?_⟩
  replace h := zq_nx2 (q := 108) h rfl
  refine ⟨zq_k_u2 182 (fun z => .invokevirtual z) 301 h rfl (zq_o_182 _) (by decide +kernel), ?_⟩
  replace h := zq_nx3 (q := 111) h rfl
  refine ⟨zq_k_s2 153 (fun z => .ifCond .eq z) 22 h rfl (zq_o_153 _) (by decide +kernel), ?_⟩
  replace h := zq_nx3 (q := 114) h rfl
  refine ⟨zq_k_n 42 h rfl (zq_o_42 _), ?_⟩
  replace h := zq_nx1 (q := 115) h rfl
  refine ⟨zq_k_n 5 h rfl (zq_o_5 _), ?_⟩
  replace h := zq_nx1 (q := 116) h rfl
  refine ⟨zq_k_n 27 h rfl (zq_o_27 _), ?_⟩
  replace h := zq_nx1 (q := 117) h rfl
  refine ⟨zq_k_u1 21 (fun z => .iload z) 7 h rfl (zq_o_21 _) (by decide +kernel), ?_⟩
  replace h := zq_nx2 (q := 119) h rfl
  refine ⟨zq_k_n 28 h rfl (zq_o_28 _), ?_⟩
  replace h := zq_nx1 (q := 120) h rfl
  refine ⟨zq_k_n 29 h rfl (zq_o_29 _), ?_⟩
  replace h := zq_nx1 (q := 121) h rfl
  refine ⟨zq_k_u1 21 (fun z => .iload z) 4 h rfl (zq_o_21 _) (by decide +kernel), ?_⟩
  replace h := zq_nx2 (q := 123) h rfl
  exact zq_k_u2 182 (fun z => .invokevirtual z) 301 h rfl (zq_o_182 _) (by decide +kernel)
theorem d_M_addsLaw_86 : decode prog_10_method_76_code 86 = .ok (.iload_n 1, 1) := dd_M_addsLaw_86.1
theorem d_M_addsLaw_87 : decode prog_10_method_76_code 87 = .ok (.iload 5, 2) := dd_M_addsLaw_86.2.1
theorem d_M_addsLaw_89 : decode prog_10_method_76_code 89 = .ok (.iload_n 2, 1) := dd_M_addsLaw_86.2.2.1
theorem d_M_addsLaw_90 : decode prog_10_method_76_code 90 = .ok (.iload_n 3, 1) := dd_M_addsLaw_86.2.2.2.1
theorem d_M_addsLaw_91 : decode prog_10_method_76_code 91 = .ok (.iload 4, 2) := dd_M_addsLaw_86.2.2.2.2.1
theorem d_M_addsLaw_93 : decode prog_10_method_76_code 93 = .ok (.invokevirtual 301, 3) := dd_M_addsLaw_86.2.2.2.2.2.1
theorem d_M_addsLaw_96 : decode prog_10_method_76_code 96 = .ok (.ifCond .eq 37, 3) := dd_M_addsLaw_86.2.2.2.2.2.2.1
theorem d_M_addsLaw_99 : decode prog_10_method_76_code 99 = .ok (.aload_n 0, 1) := dd_M_addsLaw_86.2.2.2.2.2.2.2.1
theorem d_M_addsLaw_100 : decode prog_10_method_76_code 100 = .ok (.iconst 1, 1) := dd_M_addsLaw_86.2.2.2.2.2.2.2.2.1
theorem d_M_addsLaw_101 : decode prog_10_method_76_code 101 = .ok (.iload_n 1, 1) := dd_M_addsLaw_86.2.2.2.2.2.2.2.2.2.1
theorem d_M_addsLaw_102 : decode prog_10_method_76_code 102 = .ok (.iload 6, 2) := dd_M_addsLaw_86.2.2.2.2.2.2.2.2.2.2.1
theorem d_M_addsLaw_104 : decode prog_10_method_76_code 104 = .ok (.iload_n 2, 1) := dd_M_addsLaw_86.2.2.2.2.2.2.2.2.2.2.2.1
theorem d_M_addsLaw_105 : decode prog_10_method_76_code 105 = .ok (.iload_n 3, 1) := dd_M_addsLaw_86.2.2.2.2.2.2.2.2.2.2.2.2.1
theorem d_M_addsLaw_106 : decode prog_10_method_76_code 106 = .ok (.iload 4, 2) := dd_M_addsLaw_86.2.2.2.2.2.2.2.2.2.2.2.2.2.1
theorem d_M_addsLaw_108 : decode prog_10_method_76_code 108 = .ok (.invokevirtual 301, 3) := dd_M_addsLaw_86.2.2.2.2.2.2.2.2.2.2.2.2.2.2.1
theorem d_M_addsLaw_111 : decode prog_10_method_76_code 111 = .ok (.ifCond .eq 22, 3) := dd_M_addsLaw_86.2.2.2.2.2.2.2.2.2.2.2.2.2.2.2.1
theorem d_M_addsLaw_114 : decode prog_10_method_76_code 114 = .ok (.aload_n 0, 1) := dd_M_addsLaw_86.2.2.2.2.2.2.2.2.2.2.2.2.2.2.2.2.1
theorem d_M_addsLaw_115 : decode prog_10_method_76_code 115 = .ok (.iconst 2, 1) := dd_M_addsLaw_86.2.2.2.2.2.2.2.2.2.2.2.2.2.2.2.2.2.1
theorem d_M_addsLaw_116 : decode prog_10_method_76_code 116 = .ok (.iload_n 1, 1) := dd_M_addsLaw_86.2.2.2.2.2.2.2.2.2.2.2.2.2.2.2.2.2.2.1
theorem d_M_addsLaw_117 : decode prog_10_method_76_code 117 = .ok (.iload 7, 2) := dd_M_addsLaw_86.2.2.2.2.2.2.2.2.2.2.2.2.2.2.2.2.2.2.2.1
theorem d_M_addsLaw_119 : decode prog_10_method_76_code 119 = .ok (.iload_n 2, 1) := dd_M_addsLaw_86.2.2.2.2.2.2.2.2.2.2.2.2.2.2.2.2.2.2.2.2.1
theorem d_M_addsLaw_120 : decode prog_10_method_76_code 120 = .ok (.iload_n 3, 1) := dd_M_addsLaw_86.2.2.2.2.2.2.2.2.2.2.2.2.2.2.2.2.2.2.2.2.2.1
theorem d_M_addsLaw_121 : decode prog_10_method_76_code 121 = .ok (.iload 4, 2) := dd_M_addsLaw_86.2.2.2.2.2.2.2.2.2.2.2.2.2.2.2.2.2.2.2.2.2.2.1
theorem d_M_addsLaw_123 : decode prog_10_method_76_code 123 = .ok (.invokevirtual 301, 3) := dd_M_addsLaw_86.2.2.2.2.2.2.2.2.2.2.2.2.2.2.2.2.2.2.2.2.2.2.2
set_option maxRecDepth 100000 in
theorem dd_M_addsLaw_126 : (decode prog_10_method_76_code 126 = .ok (.ifCond .eq 7, 3)) ∧ (decode prog_10_method_76_code 129 = .ok (.iconst 1, 1)) ∧ (decode prog_10_method_76_code 130 = .ok (.goto 4, 3)) ∧ (decode prog_10_method_76_code 133 = .ok (.iconst 0, 1)) ∧ (decode prog_10_method_76_code 134 = .ok (.istore 8, 2)) ∧ (decode prog_10_method_76_code 136 = .ok (.iload 8, 2)) ∧ (decode prog_10_method_76_code 138 = .ok (.ifCond .eq 13, 3)) ∧ (decode prog_10_method_76_code 141 = .ok (.aload_n 0, 1)) ∧ (decode prog_10_method_76_code 142 = .ok (.iload 5, 2)) ∧ (decode prog_10_method_76_code 144 = .ok (.iload 6, 2)) ∧ (decode prog_10_method_76_code 146 = .ok (.iload 7, 2)) ∧ (decode prog_10_method_76_code 148 = .ok (.invokevirtual 305, 3)) ∧ (decode prog_10_method_76_code 151 = .ok (.iinc 7 1, 3)) ∧ (decode prog_10_method_76_code 154 = .ok (.goto (-98), 3)) ∧ (decode prog_10_method_76_code 157 = .ok (.iinc 6 1, 3)) ∧ (decode prog_10_method_76_code 160 = .ok (.goto (-118), 3)) ∧ (decode prog_10_method_76_code 163 = .ok (.iinc 5 1, 3)) ∧ (decode prog_10_method_76_code 166 = .ok (.goto (-138), 3)) ∧ (decode prog_10_method_76_code 169 = .ok (.iconst 0, 1)) ∧ (decode prog_10_method_76_code 170 = .ok (.istore 5, 2)) ∧ (decode prog_10_method_76_code 172 = .ok (.iload 5, 2)) ∧ (decode prog_10_method_76_code 174 = .ok (.sipush 216, 3)) ∧ (decode prog_10_method_76_code 177 = .ok (.if_icmp .ge 23, 3)) ∧ (decode prog_10_method_76_code 180 = .ok (.aload_n 0, 1)) := by
  have h : List.drop 126 prog_10_method_76_code.data.toList = 0x99 :: _ := rfl
  refine ⟨zq_k_s2 153 (fun z => .ifCond .eq z) 7 h rfl (zq_o_153 _) (by decide +kernel), ?_⟩
  replace h := zq_nx3 (q := 129) h rfl
  refine ⟨zq_k_n 4 h rfl (zq_o_4 _), ?_⟩
  replace h := zq_nx1 (q := 130) h rfl
  refine ⟨zq_k_s2 167 (fun z => .goto z) 4 h rfl (zq_o_167 _) (by decide +kernel), ?_⟩
  replace h := zq_nx3 (q := 133) h rfl
  refine ⟨zq_k_n 3 h rfl (zq_o_3 _), ?_⟩
  replace h := zq_nx1 (q := 134) h rfl
  refine ⟨zq_k_u1 54 (fun z => .istore z) 8 h rfl (zq_o_54 _) (by decide +kernel), ?_⟩
  replace h := zq_nx2 (q := 136) h rfl
  refine ⟨zq_k_u1 21 (fun z => .iload z) 8 h rfl (zq_o_21 _) (by decide +kernel), ?_⟩
  replace h := zq_nx2 (q := 138) h rfl
  refine ⟨zq_k_s2 153 (fun z => .ifCond .eq z) 13 h rfl (zq_o_153 _) (by decide +kernel), ?_⟩
  replace h := zq_nx3 (q := 141) h rfl
  refine ⟨zq_k_n 42 h rfl (zq_o_42 _), ?_⟩
  replace h := zq_nx1 (q := 142) h rfl
  refine ⟨zq_k_u1 21 (fun z => .iload z) 5 h rfl (zq_o_21 _) (by decide +kernel), ?_⟩
  replace h := zq_nx2 (q := 144) h rfl
  refine ⟨zq_k_u1 21 (fun z => .iload z) 6 h rfl (zq_o_21 _) (by decide +kernel), ?_⟩
  replace h := zq_nx2 (q := 146) h rfl
  refine ⟨zq_k_u1 21 (fun z => .iload z) 7 h rfl (zq_o_21 _) (by decide +kernel), ?_⟩
  replace h := zq_nx2 (q := 148) h rfl
  refine ⟨zq_k_u2 182 (fun z => .invokevirtual z) 305 h rfl (zq_o_182 _) (by decide +kernel), ?_⟩
  replace h := zq_nx3 (q := 151) h rfl
  refine ⟨zq_k_iinc 7 1 h rfl (zq_o_132 _) (by decide +kernel) (by decide +kernel), ?_⟩
  replace h := zq_nx3 (q := 154) h rfl
  refine ⟨zq_k_s2 167 (fun z => .goto z) (-98) h rfl (zq_o_167 _) (by decide +kernel), ?_⟩
  replace h := zq_nx3 (q := 157) h rfl
  refine ⟨zq_k_iinc 6 1 h rfl (zq_o_132 _) (by decide +kernel) (by decide +kernel), ?_⟩
  replace h := zq_nx3 (q := 160) h rfl
  refine ⟨zq_k_s2 167 (fun z => .goto z) (-118) h rfl (zq_o_167 _) (by decide +kernel), ?_⟩
  replace h := zq_nx3 (q := 163) h rfl
  refine ⟨zq_k_iinc 5 1 h rfl (zq_o_132 _) (by decide +kernel) (by decide +kernel), ?_⟩
  replace h := zq_nx3 (q := 166) h rfl
  refine ⟨zq_k_s2 167 (fun z => .goto z) (-138) h rfl (zq_o_167 _) (by decide +kernel), ?_⟩
  replace h := zq_nx3 (q := 169) h rfl
  refine ⟨zq_k_n 3 h rfl (zq_o_3 _), ?_⟩
  replace h := zq_nx1 (q := 170) h rfl
  refine ⟨zq_k_u1 54 (fun z => .istore z) 5 h rfl (zq_o_54 _) (by decide +kernel), ?_⟩
  replace h := zq_nx2 (q := 172) h rfl
  refine ⟨zq_k_u1 21 (fun z => .iload z) 5 h rfl (zq_o_21 _) (by decide +kernel), ?_⟩
  replace h := zq_nx2 (q := 174) h rfl
  refine ⟨zq_k_s2 17 (fun z => .sipush z) 216 h rfl (zq_o_17 _) (by decide +kernel), ?_⟩
  replace h := zq_nx3 (q := 177) h rfl
  refine ⟨zq_k_s2 162 (fun z => .if_icmp .ge z) 23 h rfl (zq_o_162 _) (by decide +kernel), ?_⟩
  replace h := zq_nx3 (q := 180) h rfl
  exact zq_k_n 42 h rfl (zq_o_42 _)
theorem d_M_addsLaw_126 : decode prog_10_method_76_code 126 = .ok (.ifCond .eq 7, 3) := dd_M_addsLaw_126.1
theorem d_M_addsLaw_129 : decode prog_10_method_76_code 129 = .ok (.iconst 1, 1) := dd_M_addsLaw_126.2.1
theorem d_M_addsLaw_130 : decode prog_10_method_76_code 130 = .ok (.goto 4, 3) := dd_M_addsLaw_126.2.2.1
theorem d_M_addsLaw_133 : decode prog_10_method_76_code 133 = .ok (.iconst 0, 1) := dd_M_addsLaw_126.2.2.2.1
theorem d_M_addsLaw_134 : decode prog_10_method_76_code 134 = .ok (.istore 8, 2) := dd_M_addsLaw_126.2.2.2.2.1
theorem d_M_addsLaw_136 : decode prog_10_method_76_code 136 = .ok (.iload 8, 2) := dd_M_addsLaw_126.2.2.2.2.2.1
theorem d_M_addsLaw_138 : decode prog_10_method_76_code 138 = .ok (.ifCond .eq 13, 3) := dd_M_addsLaw_126.2.2.2.2.2.2.1
theorem d_M_addsLaw_141 : decode prog_10_method_76_code 141 = .ok (.aload_n 0, 1) := dd_M_addsLaw_126.2.2.2.2.2.2.2.1
theorem d_M_addsLaw_142 : decode prog_10_method_76_code 142 = .ok (.iload 5, 2) := dd_M_addsLaw_126.2.2.2.2.2.2.2.2.1
theorem d_M_addsLaw_144 : decode prog_10_method_76_code 144 = .ok (.iload 6, 2) := dd_M_addsLaw_126.2.2.2.2.2.2.2.2.2.1
theorem d_M_addsLaw_146 : decode prog_10_method_76_code 146 = .ok (.iload 7, 2) := dd_M_addsLaw_126.2.2.2.2.2.2.2.2.2.2.1
theorem d_M_addsLaw_148 : decode prog_10_method_76_code 148 = .ok (.invokevirtual 305, 3) := dd_M_addsLaw_126.2.2.2.2.2.2.2.2.2.2.2.1
theorem d_M_addsLaw_151 : decode prog_10_method_76_code 151 = .ok (.iinc 7 1, 3) := dd_M_addsLaw_126.2.2.2.2.2.2.2.2.2.2.2.2.1
theorem d_M_addsLaw_154 : decode prog_10_method_76_code 154 = .ok (.goto (-98), 3) := dd_M_addsLaw_126.2.2.2.2.2.2.2.2.2.2.2.2.2.1
theorem d_M_addsLaw_157 : decode prog_10_method_76_code 157 = .ok (.iinc 6 1, 3) := dd_M_addsLaw_126.2.2.2.2.2.2.2.2.2.2.2.2.2.2.1
theorem d_M_addsLaw_160 : decode prog_10_method_76_code 160 = .ok (.goto (-118), 3) := dd_M_addsLaw_126.2.2.2.2.2.2.2.2.2.2.2.2.2.2.2.1
theorem d_M_addsLaw_163 : decode prog_10_method_76_code 163 = .ok (.iinc 5 1, 3) := dd_M_addsLaw_126.2.2.2.2.2.2.2.2.2.2.2.2.2.2.2.2.1
theorem d_M_addsLaw_166 : decode prog_10_method_76_code 166 = .ok (.goto (-138), 3) := dd_M_addsLaw_126.2.2.2.2.2.2.2.2.2.2.2.2.2.2.2.2.2.1
theorem d_M_addsLaw_169 : decode prog_10_method_76_code 169 = .ok (.iconst 0, 1) := dd_M_addsLaw_126.2.2.2.2.2.2.2.2.2.2.2.2.2.2.2.2.2.2.1
theorem d_M_addsLaw_170 : decode prog_10_method_76_code 170 = .ok (.istore 5, 2) := dd_M_addsLaw_126.2.2.2.2.2.2.2.2.2.2.2.2.2.2.2.2.2.2.2.1
theorem d_M_addsLaw_172 : decode prog_10_method_76_code 172 = .ok (.iload 5, 2) := dd_M_addsLaw_126.2.2.2.2.2.2.2.2.2.2.2.2.2.2.2.2.2.2.2.2.1
theorem d_M_addsLaw_174 : decode prog_10_method_76_code 174 = .ok (.sipush 216, 3) := dd_M_addsLaw_126.2.2.2.2.2.2.2.2.2.2.2.2.2.2.2.2.2.2.2.2.2.1
theorem d_M_addsLaw_177 : decode prog_10_method_76_code 177 = .ok (.if_icmp .ge 23, 3) := dd_M_addsLaw_126.2.2.2.2.2.2.2.2.2.2.2.2.2.2.2.2.2.2.2.2.2.2.1
theorem d_M_addsLaw_180 : decode prog_10_method_76_code 180 = .ok (.aload_n 0, 1) := dd_M_addsLaw_126.2.2.2.2.2.2.2.2.2.2.2.2.2.2.2.2.2.2.2.2.2.2.2
set_option maxRecDepth 100000 in
theorem dd_M_addsLaw_181 : (decode prog_10_method_76_code 181 = .ok (.getfield 72, 3)) ∧ (decode prog_10_method_76_code 184 = .ok (.iload 5, 2)) ∧ (decode prog_10_method_76_code 186 = .ok (.aload_n 0, 1)) ∧ (decode prog_10_method_76_code 187 = .ok (.getfield 75, 3)) ∧ (decode prog_10_method_76_code 190 = .ok (.iload 5, 2)) ∧ (decode prog_10_method_76_code 192 = .ok (.laload, 1)) ∧ (decode prog_10_method_76_code 193 = .ok (.lastore, 1)) ∧ (decode prog_10_method_76_code 194 = .ok (.iinc 5 1, 3)) ∧ (decode prog_10_method_76_code 197 = .ok (.goto (-25), 3)) ∧ (decode prog_10_method_76_code 200 = .ok (.return_, 1)) := by
  have h : List.drop 181 prog_10_method_76_code.data.toList = 0xb4 :: _ := rfl
  refine ⟨zq_k_u2 180 (fun z => .getfield z) 72 h rfl (zq_o_180 _) (by decide +kernel), ?_⟩
  replace h := zq_nx3 (q := 184) h rfl
  refine ⟨zq_k_u1 21 (fun z => .iload z) 5 h rfl (zq_o_21 _) (by decide +kernel), ?_⟩
  replace h := zq_nx2 (q := 186) h rfl
  refine ⟨zq_k_n 42 h rfl (zq_o_42 _), ?_⟩
  replace h := zq_nx1 (q := 187) h rfl
  refine ⟨zq_k_u2 180 (fun z => .getfield z) 75 h rfl (zq_o_180 _) (by decide +kernel), ?_⟩
  replace h := zq_nx3 (q := 190) h rfl
  refine ⟨zq_k_u1 21 (fun z => .iload z) 5 h rfl (zq_o_21 _) (by decide +kernel), ?_⟩
  replace h := zq_nx2 (q := 192) h rfl
  refine ⟨zq_k_n 47 h rfl (zq_o_47 _), ?_⟩
  replace h := zq_nx1 (q := 193) h rfl
  refine ⟨zq_k_n 80 h rfl (zq_o_80 _), ?_⟩
  replace h := zq_nx1 (q := 194) h rfl
  refine ⟨zq_k_iinc 5 1 h rfl (zq_o_132 _) (by decide +kernel) (by decide +kernel), ?_⟩
  replace h := zq_nx3 (q := 197) h rfl
  refine ⟨zq_k_s2 167 (fun z => .goto z) (-25) h rfl (zq_o_167 _) (by decide +kernel), ?_⟩
  replace h := zq_nx3 (q := 200) h rfl
  exact zq_k_n 177 h rfl (zq_o_177 _)
theorem d_M_addsLaw_181 : decode prog_10_method_76_code 181 = .ok (.getfield 72, 3) := dd_M_addsLaw_181.1
theorem d_M_addsLaw_184 : decode prog_10_method_76_code 184 = .ok (.iload 5, 2) := dd_M_addsLaw_181.2.1
theorem d_M_addsLaw_186 : decode prog_10_method_76_code 186 = .ok (.aload_n 0, 1) := dd_M_addsLaw_181.2.2.1
theorem d_M_addsLaw_187 : decode prog_10_method_76_code 187 = .ok (.getfield 75, 3) := dd_M_addsLaw_181.2.2.2.1
theorem d_M_addsLaw_190 : decode prog_10_method_76_code 190 = .ok (.iload 5, 2) := dd_M_addsLaw_181.2.2.2.2.1
theorem d_M_addsLaw_192 : decode prog_10_method_76_code 192 = .ok (.laload, 1) := dd_M_addsLaw_181.2.2.2.2.2.1
theorem d_M_addsLaw_193 : decode prog_10_method_76_code 193 = .ok (.lastore, 1) := dd_M_addsLaw_181.2.2.2.2.2.2.1
theorem d_M_addsLaw_194 : decode prog_10_method_76_code 194 = .ok (.iinc 5 1, 3) := dd_M_addsLaw_181.2.2.2.2.2.2.2.1
theorem d_M_addsLaw_197 : decode prog_10_method_76_code 197 = .ok (.goto (-25), 3) := dd_M_addsLaw_181.2.2.2.2.2.2.2.2.1
theorem d_M_addsLaw_200 : decode prog_10_method_76_code 200 = .ok (.return_, 1) := dd_M_addsLaw_181.2.2.2.2.2.2.2.2.2
def f_M_addsLaw_172b (rec172 : Nat → Int32 → mH → Option mH) (b0 : Nat) (b5 : Int32) (h : mH) : Option mH :=
  if (216 : Int32) ≤ b5 then
    some h
  else
    bd1 (gR h b0 8 33) fun x53 =>
    bd1 (gR h b0 8 34) fun x55 =>
    bd1 (aL h x55 b5) fun x57 =>
    bd1 (sL h x53 b5 x57) fun h59 =>
    rec172 b0 (b5 + (1 : Int32)) h59
set_option maxRecDepth 20000 in
theorem t_M_addsLaw_172b {sc : Nat × (Nat → Int32)} (rec172 : Nat → Int32 → mH → Option mH) (hrec172 : ∀ (b0 : Nat) (b5 : Int32) (h : mH) (h' : mH), rec172 b0 b5 h = some h' → G sc y_M_addsLaw prog_10_method_76_code 9 none 1 27 172 [(0, .ref b0), (5, .int b5)] [] h none h') (b0 : Nat) (b5 : Int32) (h : mH) (h' : mH) (hf : f_M_addsLaw_172b rec172 b0 b5 h = some h') : G sc y_M_addsLaw prog_10_method_76_code 9 none 1 27 172 [(0, .ref b0), (5, .int b5)] [] h none h' := by
  unfold f_M_addsLaw_172b at hf
  refine g_iload (pc := 172) 1 d_M_addsLaw_172 rfl ?_
  refine g_sipush (pc := 174) (216 : Int32) d_M_addsLaw_174 (by decide) ?_
  refine g_icmpge (pc := 177) 200 d_M_addsLaw_177 (by decide) (fun c61 => ?_) (fun c61 => ?_)
  · replace hf := (if_pos c61).symm.trans hf
    obtain rfl := ret1 hf
    exact g_vret (pc := 200) rfl d_M_addsLaw_200
  · replace hf := (if_neg c61).symm.trans hf
    refine g_aload_n (pc := 180) 0 d_M_addsLaw_180 rfl rfl ?_
    obtain ⟨x53, e54, hf⟩ := bd1_e hf
    refine g_get (pc := 181) (ci := 8) (kk := 33) d_M_addsLaw_181 rfl in_M (by decide) wd_971 (gR_spec e54) ?_
    refine g_iload (pc := 184) 1 d_M_addsLaw_184 rfl ?_
    refine g_aload_n (pc := 186) 0 d_M_addsLaw_186 rfl rfl ?_
    obtain ⟨x55, e56, hf⟩ := bd1_e hf
    refine g_get (pc := 187) (ci := 8) (kk := 34) d_M_addsLaw_187 rfl in_M (by decide) wd_972 (gR_spec e56) ?_
    refine g_iload (pc := 190) 1 d_M_addsLaw_190 rfl ?_
    obtain ⟨x57, e58, hf⟩ := bd1_e hf
    refine g_lald (pc := 192) d_M_addsLaw_192 e58 ?_
    obtain ⟨h59, e60, hf⟩ := bd1_e hf
    refine g_last (pc := 193) d_M_addsLaw_193 e60 ?_
    refine g_iinc (pc := 194) 1 (b5 + (1 : Int32)) [(5, .int (b5 + (1 : Int32))), (0, .ref b0)] d_M_addsLaw_194 rfl rfl (Nat.le_of_ble_eq_true rfl) rfl ?_
    refine g_goto (pc := 197) 172 d_M_addsLaw_197 (by decide) ?_
    refine g_lv [1, 0] rfl ?_
    exact hrec172 _ _ _ _  hf
def f_M_addsLaw_172  : Nat → Nat → Int32 → mH → Option mH
  | 0 => fun _ _ _ => none
  | n + 1 => f_M_addsLaw_172b  (f_M_addsLaw_172  n)
theorem t_M_addsLaw_172 {sc : Nat × (Nat → Int32)}  : ∀ (n : Nat) (b0 : Nat) (b5 : Int32) (h : mH) (h' : mH) (hf : f_M_addsLaw_172  n b0 b5 h = some h'), G sc y_M_addsLaw prog_10_method_76_code 9 none 1 27 172 [(0, .ref b0), (5, .int b5)] [] h none h'
  | 0, _, _, _, _, hf => by cases hf
  | n + 1, _, _, _, _, hf => t_M_addsLaw_172b  (f_M_addsLaw_172  n) (t_M_addsLaw_172  n) _ _ _ _ hf
def f_M_addsLaw_151 (rec28 : Nat → Int32 → Int32 → Int32 → Int32 → Int32 → mH → Option mH) (rec42 : Nat → Int32 → Int32 → Int32 → Int32 → Int32 → Int32 → mH → Option mH) (rec56 : Nat → Int32 → Int32 → Int32 → Int32 → Int32 → Int32 → Int32 → mH → Option mH) (b0 : Nat) (b1 : Int32) (b2 : Int32) (b3 : Int32) (b4 : Int32) (b5 : Int32) (b6 : Int32) (b7 : Int32) (h : mH) : Option mH :=
  rec56 b0 b1 b2 b3 b4 b5 b6 (b7 + (1 : Int32)) h
set_option maxRecDepth 20000 in
theorem t_M_addsLaw_151 {sc : Nat × (Nat → Int32)} (rec28 : Nat → Int32 → Int32 → Int32 → Int32 → Int32 → mH → Option mH) (hrec28 : ∀ (b0 : Nat) (b1 : Int32) (b2 : Int32) (b3 : Int32) (b4 : Int32) (b5 : Int32) (h : mH) (h' : mH), rec28 b0 b1 b2 b3 b4 b5 h = some h' → G sc y_M_addsLaw prog_10_method_76_code 9 none 1 27 28 [(0, .ref b0), (1, .int b1), (2, .int b2), (3, .int b3), (4, .int b4), (5, .int b5)] [] h none h') (rec42 : Nat → Int32 → Int32 → Int32 → Int32 → Int32 → Int32 → mH → Option mH) (hrec42 : ∀ (b0 : Nat) (b1 : Int32) (b2 : Int32) (b3 : Int32) (b4 : Int32) (b5 : Int32) (b6 : Int32) (h : mH) (h' : mH), rec42 b0 b1 b2 b3 b4 b5 b6 h = some h' → G sc y_M_addsLaw prog_10_method_76_code 9 none 1 27 42 [(0, .ref b0), (1, .int b1), (2, .int b2), (3, .int b3), (4, .int b4), (5, .int b5), (6, .int b6)] [] h none h') (rec56 : Nat → Int32 → Int32 → Int32 → Int32 → Int32 → Int32 → Int32 → mH → Option mH) (hrec56 : ∀ (b0 : Nat) (b1 : Int32) (b2 : Int32) (b3 : Int32) (b4 : Int32) (b5 : Int32) (b6 : Int32) (b7 : Int32) (h : mH) (h' : mH), rec56 b0 b1 b2 b3 b4 b5 b6 b7 h = some h' → G sc y_M_addsLaw prog_10_method_76_code 9 none 1 27 56 [(0, .ref b0), (1, .int b1), (2, .int b2), (3, .int b3), (4, .int b4), (5, .int b5), (6, .int b6), (7, .int b7)] [] h none h') (b0 : Nat) (b1 : Int32) (b2 : Int32) (b3 : Int32) (b4 : Int32) (b5 : Int32) (b6 : Int32) (b7 : Int32) (h : mH) (h' : mH) (hf : f_M_addsLaw_151 rec28 rec42 rec56 b0 b1 b2 b3 b4 b5 b6 b7 h = some h') : G sc y_M_addsLaw prog_10_method_76_code 9 none 1 27 151 [(0, .ref b0), (1, .int b1), (2, .int b2), (3, .int b3), (4, .int b4), (5, .int b5), (6, .int b6), (7, .int b7)] [] h none h' := by
  unfold f_M_addsLaw_151 at hf
  refine g_iinc (pc := 151) 7 (b7 + (1 : Int32)) [(7, .int (b7 + (1 : Int32))), (0, .ref b0), (1, .int b1), (2, .int b2), (3, .int b3), (4, .int b4), (5, .int b5), (6, .int b6)] d_M_addsLaw_151 rfl rfl (Nat.le_of_ble_eq_true rfl) rfl ?_
  refine g_goto (pc := 154) 56 d_M_addsLaw_154 (by decide) ?_
  refine g_lv [1, 2, 3, 4, 5, 6, 7, 0] rfl ?_
  exact hrec56 _ _ _ _ _ _ _ _ _ _  hf
def f_M_addsLaw_134 (rec28 : Nat → Int32 → Int32 → Int32 → Int32 → Int32 → mH → Option mH) (rec42 : Nat → Int32 → Int32 → Int32 → Int32 → Int32 → Int32 → mH → Option mH) (rec56 : Nat → Int32 → Int32 → Int32 → Int32 → Int32 → Int32 → Int32 → mH → Option mH) (b0 : Nat) (b1 : Int32) (b2 : Int32) (b3 : Int32) (b4 : Int32) (b5 : Int32) (b6 : Int32) (b7 : Int32) (s0 : Int32) (h : mH) : Option mH :=
  if s0 = 0 then
    f_M_addsLaw_151 rec28 rec42 rec56 b0 b1 b2 b3 b4 b5 b6 b7 h
  else
    bd1 (kC h b0 8) fun _ =>
    bd1 (f_M_addsTables b0 b5 b6 b7 h) fun h50 =>
    f_M_addsLaw_151 rec28 rec42 rec56 b0 b1 b2 b3 b4 b5 b6 b7 h50
set_option maxRecDepth 20000 in
theorem t_M_addsLaw_134 {sc : Nat × (Nat → Int32)} (rec28 : Nat → Int32 → Int32 → Int32 → Int32 → Int32 → mH → Option mH) (hrec28 : ∀ (b0 : Nat) (b1 : Int32) (b2 : Int32) (b3 : Int32) (b4 : Int32) (b5 : Int32) (h : mH) (h' : mH), rec28 b0 b1 b2 b3 b4 b5 h = some h' → G sc y_M_addsLaw prog_10_method_76_code 9 none 1 27 28 [(0, .ref b0), (1, .int b1), (2, .int b2), (3, .int b3), (4, .int b4), (5, .int b5)] [] h none h') (rec42 : Nat → Int32 → Int32 → Int32 → Int32 → Int32 → Int32 → mH → Option mH) (hrec42 : ∀ (b0 : Nat) (b1 : Int32) (b2 : Int32) (b3 : Int32) (b4 : Int32) (b5 : Int32) (b6 : Int32) (h : mH) (h' : mH), rec42 b0 b1 b2 b3 b4 b5 b6 h = some h' → G sc y_M_addsLaw prog_10_method_76_code 9 none 1 27 42 [(0, .ref b0), (1, .int b1), (2, .int b2), (3, .int b3), (4, .int b4), (5, .int b5), (6, .int b6)] [] h none h') (rec56 : Nat → Int32 → Int32 → Int32 → Int32 → Int32 → Int32 → Int32 → mH → Option mH) (hrec56 : ∀ (b0 : Nat) (b1 : Int32) (b2 : Int32) (b3 : Int32) (b4 : Int32) (b5 : Int32) (b6 : Int32) (b7 : Int32) (h : mH) (h' : mH), rec56 b0 b1 b2 b3 b4 b5 b6 b7 h = some h' → G sc y_M_addsLaw prog_10_method_76_code 9 none 1 27 56 [(0, .ref b0), (1, .int b1), (2, .int b2), (3, .int b3), (4, .int b4), (5, .int b5), (6, .int b6), (7, .int b7)] [] h none h') (b0 : Nat) (b1 : Int32) (b2 : Int32) (b3 : Int32) (b4 : Int32) (b5 : Int32) (b6 : Int32) (b7 : Int32) (s0 : Int32) (h : mH) (h' : mH) (hf : f_M_addsLaw_134 rec28 rec42 rec56 b0 b1 b2 b3 b4 b5 b6 b7 s0 h = some h') : G sc y_M_addsLaw prog_10_method_76_code 9 none 1 27 134 [(0, .ref b0), (1, .int b1), (2, .int b2), (3, .int b3), (4, .int b4), (5, .int b5), (6, .int b6), (7, .int b7)] [.int s0] h none h' := by
  unfold f_M_addsLaw_134 at hf
  refine g_istore (pc := 134) [(8, .int s0), (0, .ref b0), (1, .int b1), (2, .int b2), (3, .int b3), (4, .int b4), (5, .int b5), (6, .int b6), (7, .int b7)] d_M_addsLaw_134 (Nat.le_of_ble_eq_true rfl) rfl ?_
  refine g_iload (pc := 136) 0 d_M_addsLaw_136 rfl ?_
  refine g_ifeq (pc := 138) 151 d_M_addsLaw_138 (by decide) (fun c52 => ?_) (fun c52 => ?_)
  · replace hf := (if_pos c52).symm.trans hf
    refine g_lv [1, 2, 3, 4, 5, 6, 7, 8] rfl ?_
    exact t_M_addsLaw_151 rec28 hrec28 rec42 hrec42 rec56 hrec56 _ _ _ _ _ _ _ _ _ _  hf
  · replace hf := (if_neg c52).symm.trans hf
    refine g_aload_n (pc := 141) 1 d_M_addsLaw_141 rfl rfl ?_
    refine g_iload (pc := 142) 6 d_M_addsLaw_142 rfl ?_
    refine g_iload (pc := 144) 7 d_M_addsLaw_144 rfl ?_
    refine g_iload (pc := 146) 8 d_M_addsLaw_146 rfl ?_
    obtain ⟨u49, e48, hf⟩ := bd1_e hf
    obtain ⟨h50, e51, hf⟩ := bd1_e hf
    refine g_callV (pc := 148) (ci := 8) [.int b5, .int b6, .int b7] (site_of si_M_addsTables (by decide) (by decide)) wd_1361 wd_1363 wp_72 d_M_addsLaw_148 rfl e48 (Nat.le_of_ble_eq_true rfl) (fun z => absurd z (by decide)) (fun z => absurd z (by decide)) (fun z => absurd z (by decide)) (c_M_addsTables e51) rfl ?_
    refine g_st [] rfl ?_
    refine g_lv [1, 2, 3, 4, 5, 6, 7, 8] rfl ?_
    exact t_M_addsLaw_151 rec28 hrec28 rec42 hrec42 rec56 hrec56 _ _ _ _ _ _ _ _ _ _  hf
def f_M_addsLaw_133 (rec28 : Nat → Int32 → Int32 → Int32 → Int32 → Int32 → mH → Option mH) (rec42 : Nat → Int32 → Int32 → Int32 → Int32 → Int32 → Int32 → mH → Option mH) (rec56 : Nat → Int32 → Int32 → Int32 → Int32 → Int32 → Int32 → Int32 → mH → Option mH) (b0 : Nat) (b1 : Int32) (b2 : Int32) (b3 : Int32) (b4 : Int32) (b5 : Int32) (b6 : Int32) (b7 : Int32) (h : mH) : Option mH :=
  f_M_addsLaw_134 rec28 rec42 rec56 b0 b1 b2 b3 b4 b5 b6 b7 (0 : Int32) h
set_option maxRecDepth 20000 in
theorem t_M_addsLaw_133 {sc : Nat × (Nat → Int32)} (rec28 : Nat → Int32 → Int32 → Int32 → Int32 → Int32 → mH → Option mH) (hrec28 : ∀ (b0 : Nat) (b1 : Int32) (b2 : Int32) (b3 : Int32) (b4 : Int32) (b5 : Int32) (h : mH) (h' : mH), rec28 b0 b1 b2 b3 b4 b5 h = some h' → G sc y_M_addsLaw prog_10_method_76_code 9 none 1 27 28 [(0, .ref b0), (1, .int b1), (2, .int b2), (3, .int b3), (4, .int b4), (5, .int b5)] [] h none h') (rec42 : Nat → Int32 → Int32 → Int32 → Int32 → Int32 → Int32 → mH → Option mH) (hrec42 : ∀ (b0 : Nat) (b1 : Int32) (b2 : Int32) (b3 : Int32) (b4 : Int32) (b5 : Int32) (b6 : Int32) (h : mH) (h' : mH), rec42 b0 b1 b2 b3 b4 b5 b6 h = some h' → G sc y_M_addsLaw prog_10_method_76_code 9 none 1 27 42 [(0, .ref b0), (1, .int b1), (2, .int b2), (3, .int b3), (4, .int b4), (5, .int b5), (6, .int b6)] [] h none h') (rec56 : Nat → Int32 → Int32 → Int32 → Int32 → Int32 → Int32 → Int32 → mH → Option mH) (hrec56 : ∀ (b0 : Nat) (b1 : Int32) (b2 : Int32) (b3 : Int32) (b4 : Int32) (b5 : Int32) (b6 : Int32) (b7 : Int32) (h : mH) (h' : mH), rec56 b0 b1 b2 b3 b4 b5 b6 b7 h = some h' → G sc y_M_addsLaw prog_10_method_76_code 9 none 1 27 56 [(0, .ref b0), (1, .int b1), (2, .int b2), (3, .int b3), (4, .int b4), (5, .int b5), (6, .int b6), (7, .int b7)] [] h none h') (b0 : Nat) (b1 : Int32) (b2 : Int32) (b3 : Int32) (b4 : Int32) (b5 : Int32) (b6 : Int32) (b7 : Int32) (h : mH) (h' : mH) (hf : f_M_addsLaw_133 rec28 rec42 rec56 b0 b1 b2 b3 b4 b5 b6 b7 h = some h') : G sc y_M_addsLaw prog_10_method_76_code 9 none 1 27 133 [(0, .ref b0), (1, .int b1), (2, .int b2), (3, .int b3), (4, .int b4), (5, .int b5), (6, .int b6), (7, .int b7)] [] h none h' := by
  unfold f_M_addsLaw_133 at hf
  refine g_iconst (pc := 133) (0 : Int32) d_M_addsLaw_133 (by decide) ?_
  refine g_lv [0, 1, 2, 3, 4, 5, 6, 7] rfl ?_
  exact t_M_addsLaw_134 rec28 hrec28 rec42 hrec42 rec56 hrec56 _ _ _ _ _ _ _ _ _ _ _  hf
def f_M_addsLaw_56b (rec28 : Nat → Int32 → Int32 → Int32 → Int32 → Int32 → mH → Option mH) (rec42 : Nat → Int32 → Int32 → Int32 → Int32 → Int32 → Int32 → mH → Option mH) (rec56 : Nat → Int32 → Int32 → Int32 → Int32 → Int32 → Int32 → Int32 → mH → Option mH) (b0 : Nat) (b1 : Int32) (b2 : Int32) (b3 : Int32) (b4 : Int32) (b5 : Int32) (b6 : Int32) (b7 : Int32) (h : mH) : Option mH :=
  bd1 (kC h b0 8) fun _ =>
  bd2 (f_M_mostOf b0 (2 : Int32) b1 h) fun x22 h20 =>
  if x22 < b7 then
    rec42 b0 b1 b2 b3 b4 b5 (b6 + (1 : Int32)) h20
  else
    bd1 (kC h20 b0 8) fun _ =>
    bd2 (f_M_isSo b0 (1 : Int32) b1 ((b5 + b6) + b7) h20) fun x27 h25 =>
    if x27 = 0 then
      f_M_addsLaw_133 rec28 rec42 rec56 b0 b1 b2 b3 b4 b5 b6 b7 h25
    else
      bd1 (kC h25 b0 8) fun _ =>
      bd2 (f_M_isAsked b0 (0 : Int32) b1 b5 b2 b3 b4 h25) fun x32 h30 =>
      if x32 = 0 then
        f_M_addsLaw_133 rec28 rec42 rec56 b0 b1 b2 b3 b4 b5 b6 b7 h30
      else
        bd1 (kC h30 b0 8) fun _ =>
        bd2 (f_M_isAsked b0 (1 : Int32) b1 b6 b2 b3 b4 h30) fun x37 h35 =>
        if x37 = 0 then
          f_M_addsLaw_133 rec28 rec42 rec56 b0 b1 b2 b3 b4 b5 b6 b7 h35
        else
          bd1 (kC h35 b0 8) fun _ =>
          bd2 (f_M_isAsked b0 (2 : Int32) b1 b7 b2 b3 b4 h35) fun x42 h40 =>
          if x42 = 0 then
            f_M_addsLaw_133 rec28 rec42 rec56 b0 b1 b2 b3 b4 b5 b6 b7 h40
          else
            f_M_addsLaw_134 rec28 rec42 rec56 b0 b1 b2 b3 b4 b5 b6 b7 (1 : Int32) h40
set_option maxRecDepth 20000 in
theorem t_M_addsLaw_56b {sc : Nat × (Nat → Int32)} (rec28 : Nat → Int32 → Int32 → Int32 → Int32 → Int32 → mH → Option mH) (hrec28 : ∀ (b0 : Nat) (b1 : Int32) (b2 : Int32) (b3 : Int32) (b4 : Int32) (b5 : Int32) (h : mH) (h' : mH), rec28 b0 b1 b2 b3 b4 b5 h = some h' → G sc y_M_addsLaw prog_10_method_76_code 9 none 1 27 28 [(0, .ref b0), (1, .int b1), (2, .int b2), (3, .int b3), (4, .int b4), (5, .int b5)] [] h none h') (rec42 : Nat → Int32 → Int32 → Int32 → Int32 → Int32 → Int32 → mH → Option mH) (hrec42 : ∀ (b0 : Nat) (b1 : Int32) (b2 : Int32) (b3 : Int32) (b4 : Int32) (b5 : Int32) (b6 : Int32) (h : mH) (h' : mH), rec42 b0 b1 b2 b3 b4 b5 b6 h = some h' → G sc y_M_addsLaw prog_10_method_76_code 9 none 1 27 42 [(0, .ref b0), (1, .int b1), (2, .int b2), (3, .int b3), (4, .int b4), (5, .int b5), (6, .int b6)] [] h none h') (rec56 : Nat → Int32 → Int32 → Int32 → Int32 → Int32 → Int32 → Int32 → mH → Option mH) (hrec56 : ∀ (b0 : Nat) (b1 : Int32) (b2 : Int32) (b3 : Int32) (b4 : Int32) (b5 : Int32) (b6 : Int32) (b7 : Int32) (h : mH) (h' : mH), rec56 b0 b1 b2 b3 b4 b5 b6 b7 h = some h' → G sc y_M_addsLaw prog_10_method_76_code 9 none 1 27 56 [(0, .ref b0), (1, .int b1), (2, .int b2), (3, .int b3), (4, .int b4), (5, .int b5), (6, .int b6), (7, .int b7)] [] h none h') (b0 : Nat) (b1 : Int32) (b2 : Int32) (b3 : Int32) (b4 : Int32) (b5 : Int32) (b6 : Int32) (b7 : Int32) (h : mH) (h' : mH) (hf : f_M_addsLaw_56b rec28 rec42 rec56 b0 b1 b2 b3 b4 b5 b6 b7 h = some h') : G sc y_M_addsLaw prog_10_method_76_code 9 none 1 27 56 [(0, .ref b0), (1, .int b1), (2, .int b2), (3, .int b3), (4, .int b4), (5, .int b5), (6, .int b6), (7, .int b7)] [] h none h' := by
  unfold f_M_addsLaw_56b at hf
  refine g_iload (pc := 56) 7 d_M_addsLaw_56 rfl ?_
  refine g_aload_n (pc := 58) 0 d_M_addsLaw_58 rfl rfl ?_
  refine g_iconst (pc := 59) (2 : Int32) d_M_addsLaw_59 (by decide) ?_
  refine g_iload_n (pc := 60) 1 d_M_addsLaw_60 rfl rfl ?_
  obtain ⟨u19, e18, hf⟩ := bd1_e hf
  obtain ⟨x22, h20, e21, hf⟩ := bd2_e hf
  refine g_callV (pc := 61) (ci := 8) [.int (2 : Int32), .int b1] (site_of si_M_mostOf (by decide) (by decide)) wd_1349 wd_1351 wp_69 d_M_addsLaw_61 rfl e18 (Nat.le_of_ble_eq_true rfl) (fun z => absurd z (by decide)) (fun z => absurd z (by decide)) (fun z => absurd z (by decide)) (c_M_mostOf e21) rfl ?_
  refine g_st [.int x22, .int b7] rfl ?_
  refine g_icmpgt (pc := 64) 157 d_M_addsLaw_64 (by decide) (fun c47 => ?_) (fun c47 => ?_)
  · replace hf := (if_pos c47).symm.trans hf
    refine g_iinc (pc := 157) 6 (b6 + (1 : Int32)) [(6, .int (b6 + (1 : Int32))), (0, .ref b0), (1, .int b1), (2, .int b2), (3, .int b3), (4, .int b4), (5, .int b5), (7, .int b7)] d_M_addsLaw_157 rfl rfl (Nat.le_of_ble_eq_true rfl) rfl ?_
    refine g_goto (pc := 160) 42 d_M_addsLaw_160 (by decide) ?_
    refine g_lv [1, 2, 3, 4, 5, 6, 0] rfl ?_
    exact hrec42 _ _ _ _ _ _ _ _ _  hf
  · replace hf := (if_neg c47).symm.trans hf
    refine g_aload_n (pc := 67) 0 d_M_addsLaw_67 rfl rfl ?_
    refine g_iconst (pc := 68) (1 : Int32) d_M_addsLaw_68 (by decide) ?_
    refine g_iload_n (pc := 69) 1 d_M_addsLaw_69 rfl rfl ?_
    refine g_iload (pc := 70) 5 d_M_addsLaw_70 rfl ?_
    refine g_iload (pc := 72) 6 d_M_addsLaw_72 rfl ?_
    refine g_iadd (pc := 74) d_M_addsLaw_74 ?_
    refine g_iload (pc := 75) 7 d_M_addsLaw_75 rfl ?_
    refine g_iadd (pc := 77) d_M_addsLaw_77 ?_
    obtain ⟨u24, e23, hf⟩ := bd1_e hf
    obtain ⟨x27, h25, e26, hf⟩ := bd2_e hf
    refine g_callV (pc := 78) (ci := 8) [.int (1 : Int32), .int b1, .int ((b5 + b6) + b7)] (site_of si_M_isSo (by decide) (by decide)) wd_1353 wd_1355 wp_70 d_M_addsLaw_78 rfl e23 (Nat.le_of_ble_eq_true rfl) (fun z => absurd z (by decide)) (fun z => absurd z (by decide)) (fun z => absurd z (by decide)) (c_M_isSo e26) rfl ?_
    refine g_st [.int x27] rfl ?_
    refine g_ifeq (pc := 81) 133 d_M_addsLaw_81 (by decide) (fun c46 => ?_) (fun c46 => ?_)
    · replace hf := (if_pos c46).symm.trans hf
      refine g_lv [0, 1, 2, 3, 4, 5, 6, 7] rfl ?_
      exact t_M_addsLaw_133 rec28 hrec28 rec42 hrec42 rec56 hrec56 _ _ _ _ _ _ _ _ _ _  hf
    · replace hf := (if_neg c46).symm.trans hf
      refine g_aload_n (pc := 84) 0 d_M_addsLaw_84 rfl rfl ?_
      refine g_iconst (pc := 85) (0 : Int32) d_M_addsLaw_85 (by decide) ?_
      refine g_iload_n (pc := 86) 1 d_M_addsLaw_86 rfl rfl ?_
      refine g_iload (pc := 87) 5 d_M_addsLaw_87 rfl ?_
      refine g_iload_n (pc := 89) 2 d_M_addsLaw_89 rfl rfl ?_
      refine g_iload_n (pc := 90) 3 d_M_addsLaw_90 rfl rfl ?_
      refine g_iload (pc := 91) 4 d_M_addsLaw_91 rfl ?_
      obtain ⟨u29, e28, hf⟩ := bd1_e hf
      obtain ⟨x32, h30, e31, hf⟩ := bd2_e hf
      refine g_callV (pc := 93) (ci := 8) [.int (0 : Int32), .int b1, .int b5, .int b2, .int b3, .int b4] (site_of si_M_isAsked (by decide) (by decide)) wd_1357 wd_1359 wp_71 d_M_addsLaw_93 rfl e28 (Nat.le_of_ble_eq_true rfl) (fun z => absurd z (by decide)) (fun z => absurd z (by decide)) (fun z => absurd z (by decide)) (c_M_isAsked e31) rfl ?_
      refine g_st [.int x32] rfl ?_
      refine g_ifeq (pc := 96) 133 d_M_addsLaw_96 (by decide) (fun c45 => ?_) (fun c45 => ?_)
      · replace hf := (if_pos c45).symm.trans hf
        refine g_lv [0, 1, 2, 3, 4, 5, 6, 7] rfl ?_
        exact t_M_addsLaw_133 rec28 hrec28 rec42 hrec42 rec56 hrec56 _ _ _ _ _ _ _ _ _ _  hf
      · replace hf := (if_neg c45).symm.trans hf
        refine g_aload_n (pc := 99) 0 d_M_addsLaw_99 rfl rfl ?_
        refine g_iconst (pc := 100) (1 : Int32) d_M_addsLaw_100 (by decide) ?_
        refine g_iload_n (pc := 101) 1 d_M_addsLaw_101 rfl rfl ?_
        refine g_iload (pc := 102) 6 d_M_addsLaw_102 rfl ?_
        refine g_iload_n (pc := 104) 2 d_M_addsLaw_104 rfl rfl ?_
        refine g_iload_n (pc := 105) 3 d_M_addsLaw_105 rfl rfl ?_
        refine g_iload (pc := 106) 4 d_M_addsLaw_106 rfl ?_
        obtain ⟨u34, e33, hf⟩ := bd1_e hf
        obtain ⟨x37, h35, e36, hf⟩ := bd2_e hf
        refine g_callV (pc := 108) (ci := 8) [.int (1 : Int32), .int b1, .int b6, .int b2, .int b3, .int b4] (site_of si_M_isAsked (by decide) (by decide)) wd_1357 wd_1359 wp_71 d_M_addsLaw_108 rfl e33 (Nat.le_of_ble_eq_true rfl) (fun z => absurd z (by decide)) (fun z => absurd z (by decide)) (fun z => absurd z (by decide)) (c_M_isAsked e36) rfl ?_
        refine g_st [.int x37] rfl ?_
        refine g_ifeq (pc := 111) 133 d_M_addsLaw_111 (by decide) (fun c44 => ?_) (fun c44 => ?_)
        · replace hf := (if_pos c44).symm.trans hf
          refine g_lv [0, 1, 2, 3, 4, 5, 6, 7] rfl ?_
          exact t_M_addsLaw_133 rec28 hrec28 rec42 hrec42 rec56 hrec56 _ _ _ _ _ _ _ _ _ _  hf
        · replace hf := (if_neg c44).symm.trans hf
          refine g_aload_n (pc := 114) 0 d_M_addsLaw_114 rfl rfl ?_
          refine g_iconst (pc := 115) (2 : Int32) d_M_addsLaw_115 (by decide) ?_
          refine g_iload_n (pc := 116) 1 d_M_addsLaw_116 rfl rfl ?_
          refine g_iload (pc := 117) 7 d_M_addsLaw_117 rfl ?_
          refine g_iload_n (pc := 119) 2 d_M_addsLaw_119 rfl rfl ?_
          refine g_iload_n (pc := 120) 3 d_M_addsLaw_120 rfl rfl ?_
          refine g_iload (pc := 121) 4 d_M_addsLaw_121 rfl ?_
          obtain ⟨u39, e38, hf⟩ := bd1_e hf
          obtain ⟨x42, h40, e41, hf⟩ := bd2_e hf
          refine g_callV (pc := 123) (ci := 8) [.int (2 : Int32), .int b1, .int b7, .int b2, .int b3, .int b4] (site_of si_M_isAsked (by decide) (by decide)) wd_1357 wd_1359 wp_71 d_M_addsLaw_123 rfl e38 (Nat.le_of_ble_eq_true rfl) (fun z => absurd z (by decide)) (fun z => absurd z (by decide)) (fun z => absurd z (by decide)) (c_M_isAsked e41) rfl ?_
          refine g_st [.int x42] rfl ?_
          refine g_ifeq (pc := 126) 133 d_M_addsLaw_126 (by decide) (fun c43 => ?_) (fun c43 => ?_)
          · replace hf := (if_pos c43).symm.trans hf
            refine g_lv [0, 1, 2, 3, 4, 5, 6, 7] rfl ?_
            exact t_M_addsLaw_133 rec28 hrec28 rec42 hrec42 rec56 hrec56 _ _ _ _ _ _ _ _ _ _  hf
          · replace hf := (if_neg c43).symm.trans hf
            refine g_iconst (pc := 129) (1 : Int32) d_M_addsLaw_129 (by decide) ?_
            refine g_goto (pc := 130) 134 d_M_addsLaw_130 (by decide) ?_
            refine g_lv [0, 1, 2, 3, 4, 5, 6, 7] rfl ?_
            exact t_M_addsLaw_134 rec28 hrec28 rec42 hrec42 rec56 hrec56 _ _ _ _ _ _ _ _ _ _ _  hf
def f_M_addsLaw_56 (rec28 : Nat → Int32 → Int32 → Int32 → Int32 → Int32 → mH → Option mH) (rec42 : Nat → Int32 → Int32 → Int32 → Int32 → Int32 → Int32 → mH → Option mH) : Nat → Nat → Int32 → Int32 → Int32 → Int32 → Int32 → Int32 → Int32 → mH → Option mH
  | 0 => fun _ _ _ _ _ _ _ _ _ => none
  | n + 1 => f_M_addsLaw_56b rec28 rec42 (f_M_addsLaw_56 rec28 rec42 n)
theorem t_M_addsLaw_56 {sc : Nat × (Nat → Int32)} (rec28 : Nat → Int32 → Int32 → Int32 → Int32 → Int32 → mH → Option mH) (hrec28 : ∀ (b0 : Nat) (b1 : Int32) (b2 : Int32) (b3 : Int32) (b4 : Int32) (b5 : Int32) (h : mH) (h' : mH), rec28 b0 b1 b2 b3 b4 b5 h = some h' → G sc y_M_addsLaw prog_10_method_76_code 9 none 1 27 28 [(0, .ref b0), (1, .int b1), (2, .int b2), (3, .int b3), (4, .int b4), (5, .int b5)] [] h none h') (rec42 : Nat → Int32 → Int32 → Int32 → Int32 → Int32 → Int32 → mH → Option mH) (hrec42 : ∀ (b0 : Nat) (b1 : Int32) (b2 : Int32) (b3 : Int32) (b4 : Int32) (b5 : Int32) (b6 : Int32) (h : mH) (h' : mH), rec42 b0 b1 b2 b3 b4 b5 b6 h = some h' → G sc y_M_addsLaw prog_10_method_76_code 9 none 1 27 42 [(0, .ref b0), (1, .int b1), (2, .int b2), (3, .int b3), (4, .int b4), (5, .int b5), (6, .int b6)] [] h none h') : ∀ (n : Nat) (b0 : Nat) (b1 : Int32) (b2 : Int32) (b3 : Int32) (b4 : Int32) (b5 : Int32) (b6 : Int32) (b7 : Int32) (h : mH) (h' : mH) (hf : f_M_addsLaw_56 rec28 rec42 n b0 b1 b2 b3 b4 b5 b6 b7 h = some h'), G sc y_M_addsLaw prog_10_method_76_code 9 none 1 27 56 [(0, .ref b0), (1, .int b1), (2, .int b2), (3, .int b3), (4, .int b4), (5, .int b5), (6, .int b6), (7, .int b7)] [] h none h'
  | 0, _, _, _, _, _, _, _, _, _, _, hf => by cases hf
  | n + 1, _, _, _, _, _, _, _, _, _, _, hf => t_M_addsLaw_56b rec28 hrec28 rec42 hrec42 (f_M_addsLaw_56 rec28 rec42 n) (t_M_addsLaw_56 rec28 hrec28 rec42 hrec42 n) _ _ _ _ _ _ _ _ _ _ hf
def f_M_addsLaw_42b (rec28 : Nat → Int32 → Int32 → Int32 → Int32 → Int32 → mH → Option mH) (rec42 : Nat → Int32 → Int32 → Int32 → Int32 → Int32 → Int32 → mH → Option mH) (b0 : Nat) (b1 : Int32) (b2 : Int32) (b3 : Int32) (b4 : Int32) (b5 : Int32) (b6 : Int32) (h : mH) : Option mH :=
  bd1 (kC h b0 8) fun _ =>
  bd2 (f_M_mostOf b0 (1 : Int32) b1 h) fun x16 h14 =>
  if x16 < b6 then
    rec28 b0 b1 b2 b3 b4 (b5 + (1 : Int32)) h14
  else
    f_M_addsLaw_56 rec28 rec42 FU b0 b1 b2 b3 b4 b5 b6 (0 : Int32) h14
set_option maxRecDepth 20000 in
theorem t_M_addsLaw_42b {sc : Nat × (Nat → Int32)} (rec28 : Nat → Int32 → Int32 → Int32 → Int32 → Int32 → mH → Option mH) (hrec28 : ∀ (b0 : Nat) (b1 : Int32) (b2 : Int32) (b3 : Int32) (b4 : Int32) (b5 : Int32) (h : mH) (h' : mH), rec28 b0 b1 b2 b3 b4 b5 h = some h' → G sc y_M_addsLaw prog_10_method_76_code 9 none 1 27 28 [(0, .ref b0), (1, .int b1), (2, .int b2), (3, .int b3), (4, .int b4), (5, .int b5)] [] h none h') (rec42 : Nat → Int32 → Int32 → Int32 → Int32 → Int32 → Int32 → mH → Option mH) (hrec42 : ∀ (b0 : Nat) (b1 : Int32) (b2 : Int32) (b3 : Int32) (b4 : Int32) (b5 : Int32) (b6 : Int32) (h : mH) (h' : mH), rec42 b0 b1 b2 b3 b4 b5 b6 h = some h' → G sc y_M_addsLaw prog_10_method_76_code 9 none 1 27 42 [(0, .ref b0), (1, .int b1), (2, .int b2), (3, .int b3), (4, .int b4), (5, .int b5), (6, .int b6)] [] h none h') (b0 : Nat) (b1 : Int32) (b2 : Int32) (b3 : Int32) (b4 : Int32) (b5 : Int32) (b6 : Int32) (h : mH) (h' : mH) (hf : f_M_addsLaw_42b rec28 rec42 b0 b1 b2 b3 b4 b5 b6 h = some h') : G sc y_M_addsLaw prog_10_method_76_code 9 none 1 27 42 [(0, .ref b0), (1, .int b1), (2, .int b2), (3, .int b3), (4, .int b4), (5, .int b5), (6, .int b6)] [] h none h' := by
  unfold f_M_addsLaw_42b at hf
  refine g_iload (pc := 42) 6 d_M_addsLaw_42 rfl ?_
  refine g_aload_n (pc := 44) 0 d_M_addsLaw_44 rfl rfl ?_
  refine g_iconst (pc := 45) (1 : Int32) d_M_addsLaw_45 (by decide) ?_
  refine g_iload_n (pc := 46) 1 d_M_addsLaw_46 rfl rfl ?_
  obtain ⟨u13, e12, hf⟩ := bd1_e hf
  obtain ⟨x16, h14, e15, hf⟩ := bd2_e hf
  refine g_callV (pc := 47) (ci := 8) [.int (1 : Int32), .int b1] (site_of si_M_mostOf (by decide) (by decide)) wd_1349 wd_1351 wp_69 d_M_addsLaw_47 rfl e12 (Nat.le_of_ble_eq_true rfl) (fun z => absurd z (by decide)) (fun z => absurd z (by decide)) (fun z => absurd z (by decide)) (c_M_mostOf e15) rfl ?_
  refine g_st [.int x16, .int b6] rfl ?_
  refine g_icmpgt (pc := 50) 163 d_M_addsLaw_50 (by decide) (fun c17 => ?_) (fun c17 => ?_)
  · replace hf := (if_pos c17).symm.trans hf
    refine g_iinc (pc := 163) 5 (b5 + (1 : Int32)) [(5, .int (b5 + (1 : Int32))), (0, .ref b0), (1, .int b1), (2, .int b2), (3, .int b3), (4, .int b4), (6, .int b6)] d_M_addsLaw_163 rfl rfl (Nat.le_of_ble_eq_true rfl) rfl ?_
    refine g_goto (pc := 166) 28 d_M_addsLaw_166 (by decide) ?_
    refine g_lv [1, 2, 3, 4, 5, 0] rfl ?_
    exact hrec28 _ _ _ _ _ _ _ _  hf
  · replace hf := (if_neg c17).symm.trans hf
    refine g_iconst (pc := 53) (0 : Int32) d_M_addsLaw_53 (by decide) ?_
    refine g_istore (pc := 54) [(7, .int (0 : Int32)), (0, .ref b0), (1, .int b1), (2, .int b2), (3, .int b3), (4, .int b4), (5, .int b5), (6, .int b6)] d_M_addsLaw_54 (Nat.le_of_ble_eq_true rfl) rfl ?_
    refine g_lv [1, 2, 3, 4, 5, 6, 7, 0] rfl ?_
    exact t_M_addsLaw_56 rec28 hrec28 rec42 hrec42 FU _ _ _ _ _ _ _ _ _ _  hf
def f_M_addsLaw_42 (rec28 : Nat → Int32 → Int32 → Int32 → Int32 → Int32 → mH → Option mH) : Nat → Nat → Int32 → Int32 → Int32 → Int32 → Int32 → Int32 → mH → Option mH
  | 0 => fun _ _ _ _ _ _ _ _ => none
  | n + 1 => f_M_addsLaw_42b rec28 (f_M_addsLaw_42 rec28 n)
theorem t_M_addsLaw_42 {sc : Nat × (Nat → Int32)} (rec28 : Nat → Int32 → Int32 → Int32 → Int32 → Int32 → mH → Option mH) (hrec28 : ∀ (b0 : Nat) (b1 : Int32) (b2 : Int32) (b3 : Int32) (b4 : Int32) (b5 : Int32) (h : mH) (h' : mH), rec28 b0 b1 b2 b3 b4 b5 h = some h' → G sc y_M_addsLaw prog_10_method_76_code 9 none 1 27 28 [(0, .ref b0), (1, .int b1), (2, .int b2), (3, .int b3), (4, .int b4), (5, .int b5)] [] h none h') : ∀ (n : Nat) (b0 : Nat) (b1 : Int32) (b2 : Int32) (b3 : Int32) (b4 : Int32) (b5 : Int32) (b6 : Int32) (h : mH) (h' : mH) (hf : f_M_addsLaw_42 rec28 n b0 b1 b2 b3 b4 b5 b6 h = some h'), G sc y_M_addsLaw prog_10_method_76_code 9 none 1 27 42 [(0, .ref b0), (1, .int b1), (2, .int b2), (3, .int b3), (4, .int b4), (5, .int b5), (6, .int b6)] [] h none h'
  | 0, _, _, _, _, _, _, _, _, _, hf => by cases hf
  | n + 1, _, _, _, _, _, _, _, _, _, hf => t_M_addsLaw_42b rec28 hrec28 (f_M_addsLaw_42 rec28 n) (t_M_addsLaw_42 rec28 hrec28 n) _ _ _ _ _ _ _ _ _ hf
def f_M_addsLaw_28b (rec28 : Nat → Int32 → Int32 → Int32 → Int32 → Int32 → mH → Option mH) (b0 : Nat) (b1 : Int32) (b2 : Int32) (b3 : Int32) (b4 : Int32) (b5 : Int32) (h : mH) : Option mH :=
  bd1 (kC h b0 8) fun _ =>
  bd2 (f_M_mostOf b0 (0 : Int32) b1 h) fun x10 h8 =>
  if x10 < b5 then
    f_M_addsLaw_172  FU b0 (0 : Int32) h8
  else
    f_M_addsLaw_42 rec28 FU b0 b1 b2 b3 b4 b5 (0 : Int32) h8
set_option maxRecDepth 20000 in
theorem t_M_addsLaw_28b {sc : Nat × (Nat → Int32)} (rec28 : Nat → Int32 → Int32 → Int32 → Int32 → Int32 → mH → Option mH) (hrec28 : ∀ (b0 : Nat) (b1 : Int32) (b2 : Int32) (b3 : Int32) (b4 : Int32) (b5 : Int32) (h : mH) (h' : mH), rec28 b0 b1 b2 b3 b4 b5 h = some h' → G sc y_M_addsLaw prog_10_method_76_code 9 none 1 27 28 [(0, .ref b0), (1, .int b1), (2, .int b2), (3, .int b3), (4, .int b4), (5, .int b5)] [] h none h') (b0 : Nat) (b1 : Int32) (b2 : Int32) (b3 : Int32) (b4 : Int32) (b5 : Int32) (h : mH) (h' : mH) (hf : f_M_addsLaw_28b rec28 b0 b1 b2 b3 b4 b5 h = some h') : G sc y_M_addsLaw prog_10_method_76_code 9 none 1 27 28 [(0, .ref b0), (1, .int b1), (2, .int b2), (3, .int b3), (4, .int b4), (5, .int b5)] [] h none h' := by
  unfold f_M_addsLaw_28b at hf
  refine g_iload (pc := 28) 5 d_M_addsLaw_28 rfl ?_
  refine g_aload_n (pc := 30) 0 d_M_addsLaw_30 rfl rfl ?_
  refine g_iconst (pc := 31) (0 : Int32) d_M_addsLaw_31 (by decide) ?_
  refine g_iload_n (pc := 32) 1 d_M_addsLaw_32 rfl rfl ?_
  obtain ⟨u7, e6, hf⟩ := bd1_e hf
  obtain ⟨x10, h8, e9, hf⟩ := bd2_e hf
  refine g_callV (pc := 33) (ci := 8) [.int (0 : Int32), .int b1] (site_of si_M_mostOf (by decide) (by decide)) wd_1349 wd_1351 wp_69 d_M_addsLaw_33 rfl e6 (Nat.le_of_ble_eq_true rfl) (fun z => absurd z (by decide)) (fun z => absurd z (by decide)) (fun z => absurd z (by decide)) (c_M_mostOf e9) rfl ?_
  refine g_st [.int x10, .int b5] rfl ?_
  refine g_icmpgt (pc := 36) 169 d_M_addsLaw_36 (by decide) (fun c11 => ?_) (fun c11 => ?_)
  · replace hf := (if_pos c11).symm.trans hf
    refine g_iconst (pc := 169) (0 : Int32) d_M_addsLaw_169 (by decide) ?_
    refine g_istore (pc := 170) [(5, .int (0 : Int32)), (0, .ref b0), (1, .int b1), (2, .int b2), (3, .int b3), (4, .int b4)] d_M_addsLaw_170 (Nat.le_of_ble_eq_true rfl) rfl ?_
    refine g_lv [1, 0] rfl ?_
    exact t_M_addsLaw_172  FU _ _ _ _  hf
  · replace hf := (if_neg c11).symm.trans hf
    refine g_iconst (pc := 39) (0 : Int32) d_M_addsLaw_39 (by decide) ?_
    refine g_istore (pc := 40) [(6, .int (0 : Int32)), (0, .ref b0), (1, .int b1), (2, .int b2), (3, .int b3), (4, .int b4), (5, .int b5)] d_M_addsLaw_40 (Nat.le_of_ble_eq_true rfl) rfl ?_
    refine g_lv [1, 2, 3, 4, 5, 6, 0] rfl ?_
    exact t_M_addsLaw_42 rec28 hrec28 FU _ _ _ _ _ _ _ _ _  hf
def f_M_addsLaw_28  : Nat → Nat → Int32 → Int32 → Int32 → Int32 → Int32 → mH → Option mH
  | 0 => fun _ _ _ _ _ _ _ => none
  | n + 1 => f_M_addsLaw_28b  (f_M_addsLaw_28  n)
theorem t_M_addsLaw_28 {sc : Nat × (Nat → Int32)}  : ∀ (n : Nat) (b0 : Nat) (b1 : Int32) (b2 : Int32) (b3 : Int32) (b4 : Int32) (b5 : Int32) (h : mH) (h' : mH) (hf : f_M_addsLaw_28  n b0 b1 b2 b3 b4 b5 h = some h'), G sc y_M_addsLaw prog_10_method_76_code 9 none 1 27 28 [(0, .ref b0), (1, .int b1), (2, .int b2), (3, .int b3), (4, .int b4), (5, .int b5)] [] h none h'
  | 0, _, _, _, _, _, _, _, _, hf => by cases hf
  | n + 1, _, _, _, _, _, _, _, _, hf => t_M_addsLaw_28b  (f_M_addsLaw_28  n) (t_M_addsLaw_28  n) _ _ _ _ _ _ _ _ hf
def f_M_addsLaw_3b (rec3 : Nat → Int32 → Int32 → Int32 → Int32 → Int32 → mH → Option mH) (b0 : Nat) (b1 : Int32) (b2 : Int32) (b3 : Int32) (b4 : Int32) (b5 : Int32) (h : mH) : Option mH :=
  if (216 : Int32) ≤ b5 then
    f_M_addsLaw_28  FU b0 b1 b2 b3 b4 (0 : Int32) h
  else
    bd1 (gR h b0 8 34) fun x1 =>
    bd1 (sL h x1 b5 (0 : Int64)) fun h3 =>
    rec3 b0 b1 b2 b3 b4 (b5 + (1 : Int32)) h3
set_option maxRecDepth 20000 in
theorem t_M_addsLaw_3b {sc : Nat × (Nat → Int32)} (rec3 : Nat → Int32 → Int32 → Int32 → Int32 → Int32 → mH → Option mH) (hrec3 : ∀ (b0 : Nat) (b1 : Int32) (b2 : Int32) (b3 : Int32) (b4 : Int32) (b5 : Int32) (h : mH) (h' : mH), rec3 b0 b1 b2 b3 b4 b5 h = some h' → G sc y_M_addsLaw prog_10_method_76_code 9 none 1 27 3 [(0, .ref b0), (1, .int b1), (2, .int b2), (3, .int b3), (4, .int b4), (5, .int b5)] [] h none h') (b0 : Nat) (b1 : Int32) (b2 : Int32) (b3 : Int32) (b4 : Int32) (b5 : Int32) (h : mH) (h' : mH) (hf : f_M_addsLaw_3b rec3 b0 b1 b2 b3 b4 b5 h = some h') : G sc y_M_addsLaw prog_10_method_76_code 9 none 1 27 3 [(0, .ref b0), (1, .int b1), (2, .int b2), (3, .int b3), (4, .int b4), (5, .int b5)] [] h none h' := by
  unfold f_M_addsLaw_3b at hf
  refine g_iload (pc := 3) 5 d_M_addsLaw_3 rfl ?_
  refine g_sipush (pc := 5) (216 : Int32) d_M_addsLaw_5 (by decide) ?_
  refine g_icmpge (pc := 8) 25 d_M_addsLaw_8 (by decide) (fun c5 => ?_) (fun c5 => ?_)
  · replace hf := (if_pos c5).symm.trans hf
    refine g_iconst (pc := 25) (0 : Int32) d_M_addsLaw_25 (by decide) ?_
    refine g_istore (pc := 26) [(5, .int (0 : Int32)), (0, .ref b0), (1, .int b1), (2, .int b2), (3, .int b3), (4, .int b4)] d_M_addsLaw_26 (Nat.le_of_ble_eq_true rfl) rfl ?_
    refine g_lv [1, 2, 3, 4, 5, 0] rfl ?_
    exact t_M_addsLaw_28  FU _ _ _ _ _ _ _ _  hf
  · replace hf := (if_neg c5).symm.trans hf
    refine g_aload_n (pc := 11) 0 d_M_addsLaw_11 rfl rfl ?_
    obtain ⟨x1, e2, hf⟩ := bd1_e hf
    refine g_get (pc := 12) (ci := 8) (kk := 34) d_M_addsLaw_12 rfl in_M (by decide) wd_972 (gR_spec e2) ?_
    refine g_iload (pc := 15) 5 d_M_addsLaw_15 rfl ?_
    refine g_lconst (pc := 17) (0 : Int64) d_M_addsLaw_17 (by decide) ?_
    obtain ⟨h3, e4, hf⟩ := bd1_e hf
    refine g_last (pc := 18) d_M_addsLaw_18 e4 ?_
    refine g_iinc (pc := 19) 5 (b5 + (1 : Int32)) [(5, .int (b5 + (1 : Int32))), (0, .ref b0), (1, .int b1), (2, .int b2), (3, .int b3), (4, .int b4)] d_M_addsLaw_19 rfl rfl (Nat.le_of_ble_eq_true rfl) rfl ?_
    refine g_goto (pc := 22) 3 d_M_addsLaw_22 (by decide) ?_
    refine g_lv [1, 2, 3, 4, 5, 0] rfl ?_
    exact hrec3 _ _ _ _ _ _ _ _  hf
def f_M_addsLaw_3  : Nat → Nat → Int32 → Int32 → Int32 → Int32 → Int32 → mH → Option mH
  | 0 => fun _ _ _ _ _ _ _ => none
  | n + 1 => f_M_addsLaw_3b  (f_M_addsLaw_3  n)
theorem t_M_addsLaw_3 {sc : Nat × (Nat → Int32)}  : ∀ (n : Nat) (b0 : Nat) (b1 : Int32) (b2 : Int32) (b3 : Int32) (b4 : Int32) (b5 : Int32) (h : mH) (h' : mH) (hf : f_M_addsLaw_3  n b0 b1 b2 b3 b4 b5 h = some h'), G sc y_M_addsLaw prog_10_method_76_code 9 none 1 27 3 [(0, .ref b0), (1, .int b1), (2, .int b2), (3, .int b3), (4, .int b4), (5, .int b5)] [] h none h'
  | 0, _, _, _, _, _, _, _, _, hf => by cases hf
  | n + 1, _, _, _, _, _, _, _, _, hf => t_M_addsLaw_3b  (f_M_addsLaw_3  n) (t_M_addsLaw_3  n) _ _ _ _ _ _ _ _ hf
def f_M_addsLaw_0  (a0 : Nat) (a1 : Int32) (a2 : Int32) (a3 : Int32) (a4 : Int32) (h : mH) : Option mH :=
  f_M_addsLaw_3  FU a0 a1 a2 a3 a4 (0 : Int32) h
set_option maxRecDepth 20000 in
theorem t_M_addsLaw_0 {sc : Nat × (Nat → Int32)}  (a0 : Nat) (a1 : Int32) (a2 : Int32) (a3 : Int32) (a4 : Int32) (h : mH) (h' : mH) (hf : f_M_addsLaw_0  a0 a1 a2 a3 a4 h = some h') : G sc y_M_addsLaw prog_10_method_76_code 9 none 1 27 0 [(0, .ref a0), (1, .int a1), (2, .int a2), (3, .int a3), (4, .int a4)] [] h none h' := by
  unfold f_M_addsLaw_0 at hf
  refine g_iconst (pc := 0) (0 : Int32) d_M_addsLaw_0 (by decide) ?_
  refine g_istore (pc := 1) [(5, .int (0 : Int32)), (0, .ref a0), (1, .int a1), (2, .int a2), (3, .int a3), (4, .int a4)] d_M_addsLaw_1 (Nat.le_of_ble_eq_true rfl) rfl ?_
  refine g_lv [1, 2, 3, 4, 5, 0] rfl ?_
  exact t_M_addsLaw_3  FU _ _ _ _ _ _ _ _  hf
def f_M_addsLaw (a0 : Nat) (a1 : Int32) (a2 : Int32) (a3 : Int32) (a4 : Int32) (h : mH) : Option mH := f_M_addsLaw_0 a0 a1 a2 a3 a4 h
theorem c_M_addsLaw {sc : Nat × (Nat → Int32)} {a0 : Nat} {a1 : Int32} {a2 : Int32} {a3 : Int32} {a4 : Int32} {h : mH} {h' : mH} (hf : f_M_addsLaw a0 a1 a2 a3 a4 h = some h') : MM sc y_M_addsLaw prog_10_method_76_code 9 none 1 27 [.ref a0, .int a1, .int a2, .int a3, .int a4] h none h' :=
  mm_of_G (by decide) (Nat.le_of_ble_eq_true rfl) (t_M_addsLaw_0 _ _ _ _ _ _ _ hf)
/-! M isTime (II)Z -/
set_option maxRecDepth 100000 in
theorem dd_M_isTime_0 : (decode prog_10_method_78_code 0 = .ok (.iload_n 1, 1)) ∧ (decode prog_10_method_78_code 1 = .ok (.aload_n 0, 1)) ∧ (decode prog_10_method_78_code 2 = .ok (.getfield 109, 3)) ∧ (decode prog_10_method_78_code 5 = .ok (.if_icmp .lt 15, 3)) ∧ (decode prog_10_method_78_code 8 = .ok (.iload_n 2, 1)) ∧ (decode prog_10_method_78_code 9 = .ok (.ifCond .ne 7, 3)) ∧ (decode prog_10_method_78_code 12 = .ok (.iconst 1, 1)) ∧ (decode prog_10_method_78_code 13 = .ok (.goto 35, 3)) ∧ (decode prog_10_method_78_code 16 = .ok (.iconst 0, 1)) ∧ (decode prog_10_method_78_code 17 = .ok (.goto 31, 3)) ∧ (decode prog_10_method_78_code 20 = .ok (.iload_n 2, 1)) ∧ (decode prog_10_method_78_code 21 = .ok (.aload_n 0, 1)) ∧ (decode prog_10_method_78_code 22 = .ok (.getfield 7, 3)) ∧ (decode prog_10_method_78_code 25 = .ok (.bipush 12, 2)) ∧ (decode prog_10_method_78_code 27 = .ok (.iload_n 1, 1)) ∧ (decode prog_10_method_78_code 28 = .ok (.iadd, 1)) ∧ (decode prog_10_method_78_code 29 = .ok (.iaload, 1)) ∧ (decode prog_10_method_78_code 30 = .ok (.if_icmp .gt 17, 3)) ∧ (decode prog_10_method_78_code 33 = .ok (.aload_n 0, 1)) ∧ (decode prog_10_method_78_code 34 = .ok (.iconst 0, 1)) ∧ (decode prog_10_method_78_code 35 = .ok (.iload_n 1, 1)) ∧ (decode prog_10_method_78_code 36 = .ok (.iload_n 2, 1)) ∧ (decode prog_10_method_78_code 37 = .ok (.invokevirtual 297, 3)) ∧ (decode prog_10_method_78_code 40 = .ok (.ifCond .eq 7, 3)) := by
  have h : List.drop 0 prog_10_method_78_code.data.toList = 0x1b :: _ := rfl
  refine ⟨zq_k_n 27 h rfl (zq_o_27 _), ?_⟩
  replace h := zq_nx1 (q := 1) h rfl
  refine ⟨zq_k_n 42 h rfl (zq_o_42 _), ?_⟩
  replace h := zq_nx1 (q := 2) h rfl
  refine ⟨zq_k_u2 180 (fun z => .getfield z) 109 h rfl (zq_o_180 _) (by decide +kernel), ?_⟩
  replace h := zq_nx3 (q := 5) h rfl
  refine ⟨zq_k_s2 161 (fun z => .if_icmp .lt z) 15 h rfl (zq_o_161 _) (by decide +kernel), ?_⟩
  replace h := zq_nx3 (q := 8) h rfl
  refine ⟨zq_k_n 28 h rfl (zq_o_28 _), ?_⟩
  replace h := zq_nx1 (q := 9) h rfl
  refine ⟨zq_k_s2 154 (fun z => .ifCond .ne z) 7 h rfl (zq_o_154 _) (by decide +kernel), ?_⟩
  replace h := zq_nx3 (q := 12) h rfl
  refine ⟨zq_k_n 4 h rfl (zq_o_4 _), ?_⟩
  replace h := zq_nx1 (q := 13) h rfl
  refine ⟨zq_k_s2 167 (fun z => .goto z) 35 h rfl (zq_o_167 _) (by decide +kernel), ?_⟩
  replace h := zq_nx3 (q := 16) h rfl
  refine ⟨zq_k_n 3 h rfl (zq_o_3 _), ?_⟩
  replace h := zq_nx1 (q := 17) h rfl
  refine ⟨zq_k_s2 167 (fun z => .goto z) 31 h rfl (zq_o_167 _) (by decide +kernel), ?_⟩
  replace h := zq_nx3 (q := 20) h rfl
  refine ⟨zq_k_n 28 h rfl (zq_o_28 _), ?_⟩
  replace h := zq_nx1 (q := 21) h rfl
  refine ⟨zq_k_n 42 h rfl (zq_o_42 _), ?_⟩
  replace h := zq_nx1 (q := 22) h rfl
  refine ⟨zq_k_u2 180 (fun z => .getfield z) 7 h rfl (zq_o_180 _) (by decide +kernel), ?_⟩
  replace h := zq_nx3 (q := 25) h rfl
  refine ⟨zq_k_s1 16 (fun z => .bipush z) 12 h rfl (zq_o_16 _) (by decide +kernel), ?_⟩
  replace h := zq_nx2 (q := 27) h rfl
  refine ⟨zq_k_n 27 h rfl (zq_o_27 _), ?_⟩
  replace h := zq_nx1 (q := 28) h rfl
  refine ⟨zq_k_n 96 h rfl (zq_o_96 _), ?_⟩
  replace h := zq_nx1 (q := 29) h rfl
  refine ⟨zq_k_n 46 h rfl (zq_o_46 _), ?_⟩
  replace h := zq_nx1 (q := 30) h rfl
  refine ⟨zq_k_s2 163 (fun z => .if_icmp .gt z) 17 h rfl (zq_o_163 _) (by decide +kernel), ?_⟩
  replace h := zq_nx3 (q := 33) h rfl
  refine ⟨zq_k_n 42 h rfl (zq_o_42 _), ?_⟩
  replace h := zq_nx1 (q := 34) h rfl
  refine ⟨zq_k_n 3 h rfl (zq_o_3 _), ?_⟩
  replace h := zq_nx1 (q := 35) h rfl
  refine ⟨zq_k_n 27 h rfl (zq_o_27 _), ?_⟩
  replace h := zq_nx1 (q := 36) h rfl
  refine ⟨zq_k_n 28 h rfl (zq_o_28 _), ?_⟩
  replace h := zq_nx1 (q := 37) h rfl
  refine ⟨zq_k_u2 182 (fun z => .invokevirtual z) 297 h rfl (zq_o_182 _) (by decide +kernel), ?_⟩
  replace h := zq_nx3 (q := 40) h rfl
  exact zq_k_s2 153 (fun z => .ifCond .eq z) 7 h rfl (zq_o_153 _) (by decide +kernel)
theorem d_M_isTime_0 : decode prog_10_method_78_code 0 = .ok (.iload_n 1, 1) := dd_M_isTime_0.1
theorem d_M_isTime_1 : decode prog_10_method_78_code 1 = .ok (.aload_n 0, 1) := dd_M_isTime_0.2.1
theorem d_M_isTime_2 : decode prog_10_method_78_code 2 = .ok (.getfield 109, 3) := dd_M_isTime_0.2.2.1
theorem d_M_isTime_5 : decode prog_10_method_78_code 5 = .ok (.if_icmp .lt 15, 3) := dd_M_isTime_0.2.2.2.1
theorem d_M_isTime_8 : decode prog_10_method_78_code 8 = .ok (.iload_n 2, 1) := dd_M_isTime_0.2.2.2.2.1
theorem d_M_isTime_9 : decode prog_10_method_78_code 9 = .ok (.ifCond .ne 7, 3) := dd_M_isTime_0.2.2.2.2.2.1
theorem d_M_isTime_12 : decode prog_10_method_78_code 12 = .ok (.iconst 1, 1) := dd_M_isTime_0.2.2.2.2.2.2.1
theorem d_M_isTime_13 : decode prog_10_method_78_code 13 = .ok (.goto 35, 3) := dd_M_isTime_0.2.2.2.2.2.2.2.1
theorem d_M_isTime_16 : decode prog_10_method_78_code 16 = .ok (.iconst 0, 1) := dd_M_isTime_0.2.2.2.2.2.2.2.2.1
theorem d_M_isTime_17 : decode prog_10_method_78_code 17 = .ok (.goto 31, 3) := dd_M_isTime_0.2.2.2.2.2.2.2.2.2.1
theorem d_M_isTime_20 : decode prog_10_method_78_code 20 = .ok (.iload_n 2, 1) := dd_M_isTime_0.2.2.2.2.2.2.2.2.2.2.1
theorem d_M_isTime_21 : decode prog_10_method_78_code 21 = .ok (.aload_n 0, 1) := dd_M_isTime_0.2.2.2.2.2.2.2.2.2.2.2.1
theorem d_M_isTime_22 : decode prog_10_method_78_code 22 = .ok (.getfield 7, 3) := dd_M_isTime_0.2.2.2.2.2.2.2.2.2.2.2.2.1
theorem d_M_isTime_25 : decode prog_10_method_78_code 25 = .ok (.bipush 12, 2) := dd_M_isTime_0.2.2.2.2.2.2.2.2.2.2.2.2.2.1
theorem d_M_isTime_27 : decode prog_10_method_78_code 27 = .ok (.iload_n 1, 1) := dd_M_isTime_0.2.2.2.2.2.2.2.2.2.2.2.2.2.2.1
theorem d_M_isTime_28 : decode prog_10_method_78_code 28 = .ok (.iadd, 1) := dd_M_isTime_0.2.2.2.2.2.2.2.2.2.2.2.2.2.2.2.1
theorem d_M_isTime_29 : decode prog_10_method_78_code 29 = .ok (.iaload, 1) := dd_M_isTime_0.2.2.2.2.2.2.2.2.2.2.2.2.2.2.2.2.1
theorem d_M_isTime_30 : decode prog_10_method_78_code 30 = .ok (.if_icmp .gt 17, 3) := dd_M_isTime_0.2.2.2.2.2.2.2.2.2.2.2.2.2.2.2.2.2.1
theorem d_M_isTime_33 : decode prog_10_method_78_code 33 = .ok (.aload_n 0, 1) := dd_M_isTime_0.2.2.2.2.2.2.2.2.2.2.2.2.2.2.2.2.2.2.1
theorem d_M_isTime_34 : decode prog_10_method_78_code 34 = .ok (.iconst 0, 1) := dd_M_isTime_0.2.2.2.2.2.2.2.2.2.2.2.2.2.2.2.2.2.2.2.1
theorem d_M_isTime_35 : decode prog_10_method_78_code 35 = .ok (.iload_n 1, 1) := dd_M_isTime_0.2.2.2.2.2.2.2.2.2.2.2.2.2.2.2.2.2.2.2.2.1
theorem d_M_isTime_36 : decode prog_10_method_78_code 36 = .ok (.iload_n 2, 1) := dd_M_isTime_0.2.2.2.2.2.2.2.2.2.2.2.2.2.2.2.2.2.2.2.2.2.1
theorem d_M_isTime_37 : decode prog_10_method_78_code 37 = .ok (.invokevirtual 297, 3) := dd_M_isTime_0.2.2.2.2.2.2.2.2.2.2.2.2.2.2.2.2.2.2.2.2.2.2.1
theorem d_M_isTime_40 : decode prog_10_method_78_code 40 = .ok (.ifCond .eq 7, 3) := dd_M_isTime_0.2.2.2.2.2.2.2.2.2.2.2.2.2.2.2.2.2.2.2.2.2.2.2
set_option maxRecDepth 100000 in
theorem dd_M_isTime_43 : (decode prog_10_method_78_code 43 = .ok (.iconst 1, 1)) ∧ (decode prog_10_method_78_code 44 = .ok (.goto 4, 3)) ∧ (decode prog_10_method_78_code 47 = .ok (.iconst 0, 1)) ∧ (decode prog_10_method_78_code 48 = .ok (.ireturn, 1)) := by
  have h : List.drop 43 prog_10_method_78_code.data.toList = 0x04 :: _ := rfl
  refine ⟨zq_k_n 4 h rfl (zq_o_4 _), ?_⟩
  replace h := zq_nx1 (q := 44) h rfl
  refine ⟨zq_k_s2 167 (fun z => .goto z) 4 h rfl (zq_o_167 _) (by decide +kernel), ?_⟩
  replace h := zq_nx3 (q := 47) h rfl
  refine ⟨zq_k_n 3 h rfl (zq_o_3 _), ?_⟩
  replace h := zq_nx1 (q := 48) h rfl
  exact zq_k_n 172 h rfl (zq_o_172 _)
theorem d_M_isTime_43 : decode prog_10_method_78_code 43 = .ok (.iconst 1, 1) := dd_M_isTime_43.1
theorem d_M_isTime_44 : decode prog_10_method_78_code 44 = .ok (.goto 4, 3) := dd_M_isTime_43.2.1
theorem d_M_isTime_47 : decode prog_10_method_78_code 47 = .ok (.iconst 0, 1) := dd_M_isTime_43.2.2.1
theorem d_M_isTime_48 : decode prog_10_method_78_code 48 = .ok (.ireturn, 1) := dd_M_isTime_43.2.2.2
def f_M_isTime_47   (h : mH) : Option (Int32 × mH) :=
  some ((0 : Int32), h)
set_option maxRecDepth 20000 in
theorem t_M_isTime_47 {sc : Nat × (Nat → Int32)}   (h : mH) (r : Int32) (h' : mH) (hf : f_M_isTime_47   h = some (r, h')) : G sc y_M_isTime prog_10_method_78_code 3 (some .boolean) 1 26 47 [] [] h (some (.int r)) h' := by
  unfold f_M_isTime_47 at hf
  refine g_iconst (pc := 47) (0 : Int32) d_M_isTime_47 (by decide) ?_
  obtain ⟨rfl, rfl⟩ := ret2 hf
  exact g_zret (pc := 48) rfl rfl d_M_isTime_48
def f_M_isTime_0  (a0 : Nat) (a1 : Int32) (a2 : Int32) (h : mH) : Option (Int32 × mH) :=
  bd1 (gI h a0 8 3) fun x1 =>
  if a1 < x1 then
    bd1 (gR h a0 8 0) fun x3 =>
    bd1 (aI h 0 x3 ((12 : Int32) + a1)) fun x5 =>
    if x5 < a2 then
      f_M_isTime_47  h
    else
      bd1 (kC h a0 8) fun _ =>
      bd2 (f_M_isSo a0 (0 : Int32) a1 a2 h) fun x11 h9 =>
      if x11 = 0 then
        f_M_isTime_47  h9
      else
        some ((1 : Int32), h9)
  else
    if a2 = 0 then
      some ((1 : Int32), h)
    else
      some ((0 : Int32), h)
set_option maxRecDepth 20000 in
theorem t_M_isTime_0 {sc : Nat × (Nat → Int32)}  (a0 : Nat) (a1 : Int32) (a2 : Int32) (h : mH) (r : Int32) (h' : mH) (hf : f_M_isTime_0  a0 a1 a2 h = some (r, h')) : G sc y_M_isTime prog_10_method_78_code 3 (some .boolean) 1 26 0 [(0, .ref a0), (1, .int a1), (2, .int a2)] [] h (some (.int r)) h' := by
  unfold f_M_isTime_0 at hf
  refine g_iload_n (pc := 0) 1 d_M_isTime_0 rfl rfl ?_
  refine g_aload_n (pc := 1) 0 d_M_isTime_1 rfl rfl ?_
  obtain ⟨x1, e2, hf⟩ := bd1_e hf
  refine g_get (pc := 2) (ci := 8) (kk := 3) d_M_isTime_2 rfl in_M (by decide) wd_941 (gI_spec e2) ?_
  refine g_icmplt (pc := 5) 20 d_M_isTime_5 (by decide) (fun c15 => ?_) (fun c15 => ?_)
  · replace hf := (if_pos c15).symm.trans hf
    refine g_iload_n (pc := 20) 2 d_M_isTime_20 rfl rfl ?_
    refine g_aload_n (pc := 21) 0 d_M_isTime_21 rfl rfl ?_
    obtain ⟨x3, e4, hf⟩ := bd1_e hf
    refine g_get (pc := 22) (ci := 8) (kk := 0) d_M_isTime_22 rfl in_M (by decide) wd_938 (gR_spec e4) ?_
    refine g_bipush (pc := 25) (12 : Int32) d_M_isTime_25 (by decide) ?_
    refine g_iload_n (pc := 27) 1 d_M_isTime_27 rfl rfl ?_
    refine g_iadd (pc := 28) d_M_isTime_28 ?_
    obtain ⟨x5, e6, hf⟩ := bd1_e hf
    refine g_iald (pc := 29) d_M_isTime_29 e6 ?_
    refine g_icmpgt (pc := 30) 47 d_M_isTime_30 (by decide) (fun c13 => ?_) (fun c13 => ?_)
    · replace hf := (if_pos c13).symm.trans hf
      refine g_lv [] rfl ?_
      exact t_M_isTime_47  _ _ _  hf
    · replace hf := (if_neg c13).symm.trans hf
      refine g_aload_n (pc := 33) 0 d_M_isTime_33 rfl rfl ?_
      refine g_iconst (pc := 34) (0 : Int32) d_M_isTime_34 (by decide) ?_
      refine g_iload_n (pc := 35) 1 d_M_isTime_35 rfl rfl ?_
      refine g_iload_n (pc := 36) 2 d_M_isTime_36 rfl rfl ?_
      obtain ⟨u8, e7, hf⟩ := bd1_e hf
      obtain ⟨x11, h9, e10, hf⟩ := bd2_e hf
      refine g_callV (pc := 37) (ci := 8) [.int (0 : Int32), .int a1, .int a2] (site_of si_M_isSo (by decide) (by decide)) wd_1353 wd_1355 wp_70 d_M_isTime_37 rfl e7 (Nat.le_of_ble_eq_true rfl) (fun z => absurd z (by decide)) (fun z => absurd z (by decide)) (fun z => absurd z (by decide)) (c_M_isSo e10) rfl ?_
      refine g_st [.int x11] rfl ?_
      refine g_ifeq (pc := 40) 47 d_M_isTime_40 (by decide) (fun c12 => ?_) (fun c12 => ?_)
      · replace hf := (if_pos c12).symm.trans hf
        refine g_lv [] rfl ?_
        exact t_M_isTime_47  _ _ _  hf
      · replace hf := (if_neg c12).symm.trans hf
        refine g_iconst (pc := 43) (1 : Int32) d_M_isTime_43 (by decide) ?_
        refine g_goto (pc := 44) 48 d_M_isTime_44 (by decide) ?_
        obtain ⟨rfl, rfl⟩ := ret2 hf
        exact g_zret (pc := 48) rfl rfl d_M_isTime_48
  · replace hf := (if_neg c15).symm.trans hf
    refine g_iload_n (pc := 8) 2 d_M_isTime_8 rfl rfl ?_
    refine g_ifne (pc := 9) 16 d_M_isTime_9 (by decide) (fun c14 => ?_) (fun c14 => ?_)
    · replace hf := (if_neg c14).symm.trans hf
      refine g_iconst (pc := 16) (0 : Int32) d_M_isTime_16 (by decide) ?_
      refine g_goto (pc := 17) 48 d_M_isTime_17 (by decide) ?_
      obtain ⟨rfl, rfl⟩ := ret2 hf
      exact g_zret (pc := 48) rfl rfl d_M_isTime_48
    · replace hf := (if_pos c14).symm.trans hf
      refine g_iconst (pc := 12) (1 : Int32) d_M_isTime_12 (by decide) ?_
      refine g_goto (pc := 13) 48 d_M_isTime_13 (by decide) ?_
      obtain ⟨rfl, rfl⟩ := ret2 hf
      exact g_zret (pc := 48) rfl rfl d_M_isTime_48
def f_M_isTime (a0 : Nat) (a1 : Int32) (a2 : Int32) (h : mH) : Option (Int32 × mH) := f_M_isTime_0 a0 a1 a2 h
theorem c_M_isTime {sc : Nat × (Nat → Int32)} {a0 : Nat} {a1 : Int32} {a2 : Int32} {h : mH} {r : Int32} {h' : mH} (hf : f_M_isTime a0 a1 a2 h = some (r, h')) : MM sc y_M_isTime prog_10_method_78_code 3 (some .boolean) 1 26 [.ref a0, .int a1, .int a2] h (some (.int r)) h' :=
  mm_of_G (by decide) (Nat.le_of_ble_eq_true rfl) (t_M_isTime_0 _ _ _ _ _ _ hf)
/-! M tablesBy (III)J -/
set_option maxRecDepth 100000 in
theorem dd_M_tablesBy_0 : (decode prog_10_method_79_code 0 = .ok (.iconst 0, 1)) ∧ (decode prog_10_method_79_code 1 = .ok (.istore 4, 2)) ∧ (decode prog_10_method_79_code 3 = .ok (.iload 4, 2)) ∧ (decode prog_10_method_79_code 5 = .ok (.sipush 216, 3)) ∧ (decode prog_10_method_79_code 8 = .ok (.if_icmp .ge 26, 3)) ∧ (decode prog_10_method_79_code 11 = .ok (.aload_n 0, 1)) ∧ (decode prog_10_method_79_code 12 = .ok (.getfield 72, 3)) ∧ (decode prog_10_method_79_code 15 = .ok (.iload 4, 2)) ∧ (decode prog_10_method_79_code 17 = .ok (.iload 4, 2)) ∧ (decode prog_10_method_79_code 19 = .ok (.ifCond .ne 7, 3)) ∧ (decode prog_10_method_79_code 22 = .ok (.lconst 1, 1)) ∧ (decode prog_10_method_79_code 23 = .ok (.goto 4, 3)) ∧ (decode prog_10_method_79_code 26 = .ok (.lconst 0, 1)) ∧ (decode prog_10_method_79_code 27 = .ok (.lastore, 1)) ∧ (decode prog_10_method_79_code 28 = .ok (.iinc 4 1, 3)) ∧ (decode prog_10_method_79_code 31 = .ok (.goto (-28), 3)) ∧ (decode prog_10_method_79_code 34 = .ok (.iconst 0, 1)) ∧ (decode prog_10_method_79_code 35 = .ok (.istore 4, 2)) ∧ (decode prog_10_method_79_code 37 = .ok (.iload 4, 2)) ∧ (decode prog_10_method_79_code 39 = .ok (.aload_n 0, 1)) ∧ (decode prog_10_method_79_code 40 = .ok (.getfield 106, 3)) ∧ (decode prog_10_method_79_code 43 = .ok (.if_icmp .ge 18, 3)) ∧ (decode prog_10_method_79_code 46 = .ok (.aload_n 0, 1)) ∧ (decode prog_10_method_79_code 47 = .ok (.iload 4, 2)) := by
  have h : List.drop 0 prog_10_method_79_code.data.toList = 0x03 :: _ := rfl
  refine ⟨zq_k_n 3 h rfl (zq_o_3 _), ?_⟩
  replace h := zq_nx1 (q := 1) h rfl
  refine ⟨zq_k_u1 54 (fun z => .istore z) 4 h rfl (zq_o_54 _) (by decide +kernel), ?_⟩
  replace h := zq_nx2 (q := 3) h rfl
  refine ⟨zq_k_u1 21 (fun z => .iload z) 4 h rfl (zq_o_21 _) (by decide +kernel), ?_⟩
  replace h := zq_nx2 (q := 5) h rfl
  refine ⟨zq_k_s2 17 (fun z => .sipush z) 216 h rfl (zq_o_17 _) (by decide +kernel), ?_⟩
  replace h := zq_nx3 (q := 8) h rfl
  refine ⟨zq_k_s2 162 (fun z => .if_icmp .ge z) 26 h rfl (zq_o_162 _) (by decide +kernel), ?_⟩
  replace h := zq_nx3 (q := 11) h rfl
  refine ⟨zq_k_n 42 h rfl (zq_o_42 _), ?_⟩
  replace h := zq_nx1 (q := 12) h rfl
  refine ⟨zq_k_u2 180 (fun z => .getfield z) 72 h rfl (zq_o_180 _) (by decide +kernel), ?_⟩
  replace h := zq_nx3 (q := 15) h rfl
  refine ⟨zq_k_u1 21 (fun z => .iload z) 4 h rfl (zq_o_21 _) (by decide +kernel), ?_⟩
  replace h := zq_nx2 (q := 17) h rfl
  refine ⟨zq_k_u1 21 (fun z => .iload z) 4 h rfl (zq_o_21 _) (by decide +kernel), ?_⟩
  replace h := zq_nx2 (q := 19) h rfl
  refine ⟨zq_k_s2 154 (fun z => .ifCond .ne z) 7 h rfl (zq_o_154 _) (by decide +kernel), ?_⟩
  replace h := zq_nx3 (q := 22) h rfl
  refine ⟨zq_k_n 10 h rfl (zq_o_10 _), ?_⟩
  replace h := zq_nx1 (q := 23) h rfl
  refine ⟨zq_k_s2 167 (fun z => .goto z) 4 h rfl (zq_o_167 _) (by decide +kernel), ?_⟩
  replace h := zq_nx3 (q := 26) h rfl
  refine ⟨zq_k_n 9 h rfl (zq_o_9 _), ?_⟩
  replace h := zq_nx1 (q := 27) h rfl
  refine ⟨zq_k_n 80 h rfl (zq_o_80 _), ?_⟩
  replace h := zq_nx1 (q := 28) h rfl
  refine ⟨zq_k_iinc 4 1 h rfl (zq_o_132 _) (by decide +kernel) (by decide +kernel), ?_⟩
  replace h := zq_nx3 (q := 31) h rfl
  refine ⟨zq_k_s2 167 (fun z => .goto z) (-28) h rfl (zq_o_167 _) (by decide +kernel), ?_⟩
  replace h := zq_nx3 (q := 34) h rfl
  refine ⟨zq_k_n 3 h rfl (zq_o_3 _), ?_⟩
  replace h := zq_nx1 (q := 35) h rfl
  refine ⟨zq_k_u1 54 (fun z => .istore z) 4 h rfl (zq_o_54 _) (by decide +kernel), ?_⟩
  replace h := zq_nx2 (q := 37) h rfl
  refine ⟨zq_k_u1 21 (fun z => .iload z) 4 h rfl (zq_o_21 _) (by decide +kernel), ?_⟩
  replace h := zq_nx2 (q := 39) h rfl
  refine ⟨zq_k_n 42 h rfl (zq_o_42 _), ?_⟩
  replace h := zq_nx1 (q := 40) h rfl
  refine ⟨zq_k_u2 180 (fun z => .getfield z) 106 h rfl (zq_o_180 _) (by decide +kernel), ?_⟩
  replace h := zq_nx3 (q := 43) h rfl
  refine ⟨zq_k_s2 162 (fun z => .if_icmp .ge z) 18 h rfl (zq_o_162 _) (by decide +kernel), ?_⟩
  replace h := zq_nx3 (q := 46) h rfl
  refine ⟨zq_k_n 42 h rfl (zq_o_42 _), ?_⟩
  replace h := zq_nx1 (q := 47) h rfl
  exact zq_k_u1 21 (fun z => .iload z) 4 h rfl (zq_o_21 _) (by decide +kernel)
theorem d_M_tablesBy_0 : decode prog_10_method_79_code 0 = .ok (.iconst 0, 1) := dd_M_tablesBy_0.1
theorem d_M_tablesBy_1 : decode prog_10_method_79_code 1 = .ok (.istore 4, 2) := dd_M_tablesBy_0.2.1
theorem d_M_tablesBy_3 : decode prog_10_method_79_code 3 = .ok (.iload 4, 2) := dd_M_tablesBy_0.2.2.1
theorem d_M_tablesBy_5 : decode prog_10_method_79_code 5 = .ok (.sipush 216, 3) := dd_M_tablesBy_0.2.2.2.1
theorem d_M_tablesBy_8 : decode prog_10_method_79_code 8 = .ok (.if_icmp .ge 26, 3) := dd_M_tablesBy_0.2.2.2.2.1
theorem d_M_tablesBy_11 : decode prog_10_method_79_code 11 = .ok (.aload_n 0, 1) := dd_M_tablesBy_0.2.2.2.2.2.1
theorem d_M_tablesBy_12 : decode prog_10_method_79_code 12 = .ok (.getfield 72, 3) := dd_M_tablesBy_0.2.2.2.2.2.2.1
theorem d_M_tablesBy_15 : decode prog_10_method_79_code 15 = .ok (.iload 4, 2) := dd_M_tablesBy_0.2.2.2.2.2.2.2.1
theorem d_M_tablesBy_17 : decode prog_10_method_79_code 17 = .ok (.iload 4, 2) := dd_M_tablesBy_0.2.2.2.2.2.2.2.2.1
theorem d_M_tablesBy_19 : decode prog_10_method_79_code 19 = .ok (.ifCond .ne 7, 3) := dd_M_tablesBy_0.2.2.2.2.2.2.2.2.2.1
theorem d_M_tablesBy_22 : decode prog_10_method_79_code 22 = .ok (.lconst 1, 1) := dd_M_tablesBy_0.2.2.2.2.2.2.2.2.2.2.1
theorem d_M_tablesBy_23 : decode prog_10_method_79_code 23 = .ok (.goto 4, 3) := dd_M_tablesBy_0.2.2.2.2.2.2.2.2.2.2.2.1
theorem d_M_tablesBy_26 : decode prog_10_method_79_code 26 = .ok (.lconst 0, 1) := dd_M_tablesBy_0.2.2.2.2.2.2.2.2.2.2.2.2.1
theorem d_M_tablesBy_27 : decode prog_10_method_79_code 27 = .ok (.lastore, 1) := dd_M_tablesBy_0.2.2.2.2.2.2.2.2.2.2.2.2.2.1
theorem d_M_tablesBy_28 : decode prog_10_method_79_code 28 = .ok (.iinc 4 1, 3) := dd_M_tablesBy_0.2.2.2.2.2.2.2.2.2.2.2.2.2.2.1
theorem d_M_tablesBy_31 : decode prog_10_method_79_code 31 = .ok (.goto (-28), 3) := dd_M_tablesBy_0.2.2.2.2.2.2.2.2.2.2.2.2.2.2.2.1
theorem d_M_tablesBy_34 : decode prog_10_method_79_code 34 = .ok (.iconst 0, 1) := dd_M_tablesBy_0.2.2.2.2.2.2.2.2.2.2.2.2.2.2.2.2.1
theorem d_M_tablesBy_35 : decode prog_10_method_79_code 35 = .ok (.istore 4, 2) := dd_M_tablesBy_0.2.2.2.2.2.2.2.2.2.2.2.2.2.2.2.2.2.1
theorem d_M_tablesBy_37 : decode prog_10_method_79_code 37 = .ok (.iload 4, 2) := dd_M_tablesBy_0.2.2.2.2.2.2.2.2.2.2.2.2.2.2.2.2.2.2.1
theorem d_M_tablesBy_39 : decode prog_10_method_79_code 39 = .ok (.aload_n 0, 1) := dd_M_tablesBy_0.2.2.2.2.2.2.2.2.2.2.2.2.2.2.2.2.2.2.2.1
theorem d_M_tablesBy_40 : decode prog_10_method_79_code 40 = .ok (.getfield 106, 3) := dd_M_tablesBy_0.2.2.2.2.2.2.2.2.2.2.2.2.2.2.2.2.2.2.2.2.1
theorem d_M_tablesBy_43 : decode prog_10_method_79_code 43 = .ok (.if_icmp .ge 18, 3) := dd_M_tablesBy_0.2.2.2.2.2.2.2.2.2.2.2.2.2.2.2.2.2.2.2.2.2.1
theorem d_M_tablesBy_46 : decode prog_10_method_79_code 46 = .ok (.aload_n 0, 1) := dd_M_tablesBy_0.2.2.2.2.2.2.2.2.2.2.2.2.2.2.2.2.2.2.2.2.2.2.1
theorem d_M_tablesBy_47 : decode prog_10_method_79_code 47 = .ok (.iload 4, 2) := dd_M_tablesBy_0.2.2.2.2.2.2.2.2.2.2.2.2.2.2.2.2.2.2.2.2.2.2.2
set_option maxRecDepth 100000 in
theorem dd_M_tablesBy_49 : (decode prog_10_method_79_code 49 = .ok (.iload_n 1, 1)) ∧ (decode prog_10_method_79_code 50 = .ok (.iload_n 2, 1)) ∧ (decode prog_10_method_79_code 51 = .ok (.iload_n 3, 1)) ∧ (decode prog_10_method_79_code 52 = .ok (.invokevirtual 309, 3)) ∧ (decode prog_10_method_79_code 55 = .ok (.iinc 4 1, 3)) ∧ (decode prog_10_method_79_code 58 = .ok (.goto (-21), 3)) ∧ (decode prog_10_method_79_code 61 = .ok (.lconst 0, 1)) ∧ (decode prog_10_method_79_code 62 = .ok (.lstore 4, 2)) ∧ (decode prog_10_method_79_code 64 = .ok (.iconst 0, 1)) ∧ (decode prog_10_method_79_code 65 = .ok (.istore 6, 2)) ∧ (decode prog_10_method_79_code 67 = .ok (.iload 6, 2)) ∧ (decode prog_10_method_79_code 69 = .ok (.sipush 216, 3)) ∧ (decode prog_10_method_79_code 72 = .ok (.if_icmp .ge 67, 3)) ∧ (decode prog_10_method_79_code 75 = .ok (.lload 4, 2)) ∧ (decode prog_10_method_79_code 77 = .ok (.aload_n 0, 1)) ∧ (decode prog_10_method_79_code 78 = .ok (.iconst 0, 1)) ∧ (decode prog_10_method_79_code 79 = .ok (.iload 6, 2)) ∧ (decode prog_10_method_79_code 81 = .ok (.bipush 36, 2)) ∧ (decode prog_10_method_79_code 83 = .ok (.idiv, 1)) ∧ (decode prog_10_method_79_code 84 = .ok (.invokevirtual 312, 3)) ∧ (decode prog_10_method_79_code 87 = .ok (.ifCond .eq 42, 3)) ∧ (decode prog_10_method_79_code 90 = .ok (.aload_n 0, 1)) ∧ (decode prog_10_method_79_code 91 = .ok (.iconst 1, 1)) ∧ (decode prog_10_method_79_code 92 = .ok (.iload 6, 2)) := by
  have h : List.drop 49 prog_10_method_79_code.data.toList = 0x1b :: _ := rfl
  refine ⟨zq_k_n 27 h rfl (zq_o_27 _), ?_⟩
  replace h := zq_nx1 (q := 50) h rfl
  refine ⟨zq_k_n 28 h rfl (zq_o_28 _), ?_⟩
  replace h := zq_nx1 (q := 51) h rfl
  refine ⟨zq_k_n 29 h rfl (zq_o_29 _), ?_⟩
  replace h := zq_nx1 (q := 52) h rfl
  refine ⟨zq_k_u2 182 (fun z => .invokevirtual z) 309 h rfl (zq_o_182 _) (by decide +kernel), ?_⟩
  replace h := zq_nx3 (q := 55) h rfl
  refine ⟨zq_k_iinc 4 1 h rfl (zq_o_132 _) (by decide +kernel) (by decide +kernel), ?_⟩
  replace h := zq_nx3 (q := 58) h rfl
  refine ⟨zq_k_s2 167 (fun z => .goto z) (-21) h rfl (zq_o_167 _) (by decide +kernel), ?_⟩
  replace h := zq_nx3 (q := 61) h rfl
  refine ⟨zq_k_n 9 h rfl (zq_o_9 _), ?_⟩
  replace h := zq_nx1 (q := 62) h rfl
  refine ⟨zq_k_u1 55 (fun z => .lstore z) 4 h rfl (zq_o_55 _) (by decide +kernel), ?_⟩
  replace h := zq_nx2 (q := 64) h rfl
  refine ⟨zq_k_n 3 h rfl (zq_o_3 _), ?_⟩
  replace h := zq_nx1 (q := 65) h rfl
  refine ⟨zq_k_u1 54 (fun z => .istore z) 6 h rfl (zq_o_54 _) (by decide +kernel), ?_⟩
  replace h := zq_nx2 (q := 67) h rfl
  refine ⟨zq_k_u1 21 (fun z => .iload z) 6 h rfl (zq_o_21 _) (by decide +kernel), ?_⟩
  replace h := zq_nx2 (q := 69) h rfl
  refine ⟨zq_k_s2 17 (fun z => .sipush z) 216 h rfl (zq_o_17 _) (by decide +kernel), ?_⟩
  replace h := zq_nx3 (q := 72) h rfl
  refine ⟨zq_k_s2 162 (fun z => .if_icmp .ge z) 67 h rfl (zq_o_162 _) (by decide +kernel), ?_⟩
  replace h := zq_nx3 (q := 75) h rfl
  refine ⟨zq_k_u1 22 (fun z => .lload z) 4 h rfl (zq_o_22 _) (by decide +kernel), ?_⟩
  replace h := zq_nx2 (q := 77) h rfl
  refine ⟨zq_k_n 42 h rfl (zq_o_42 _), ?_⟩
  replace h := zq_nx1 (q := 78) h rfl
  refine ⟨zq_k_n 3 h rfl (zq_o_3 _), ?_⟩
  replace h := zq_nx1 (q := 79) h rfl
  refine ⟨zq_k_u1 21 (fun z => .iload z) 6 h rfl (zq_o_21 _) (by decide +kernel), ?_⟩
  replace h := zq_nx2 (q := 81) h rfl
  refine ⟨zq_k_s1 16 (fun z => .bipush z) 36 h rfl (zq_o_16 _) (by decide +kernel), ?_⟩
  replace h := zq_nx2 (q := 83) h rfl
  refine ⟨zq_k_n 108 h rfl (zq_o_108 _), ?_⟩
  replace h := zq_nx1 (q := 84) h rfl
  refine ⟨zq_k_u2 182 (fun z => .invokevirtual z) 312 h rfl (zq_o_182 _) (by decide +kernel), ?_⟩
  replace h := zq_nx3 (q := 87) h rfl
  refine ⟨zq_k_s2 153 (fun z => .ifCond .eq z) 42 h rfl (zq_o_153 _) (by decide +kernel), ?_⟩
  replace h := zq_nx3 (q := 90) h rfl
  refine ⟨zq_k_n 42 h rfl (zq_o_42 _), ?_⟩
  replace h := zq_nx1 (q := 91) h rfl
  refine ⟨zq_k_n 4 h rfl (zq_o_4 _), ?_⟩
  replace h := zq_nx1 (q := 92) h rfl
  exact zq_k_u1 21 (fun z => .iload z) 6 h rfl (zq_o_21 _) (by decide +kernel)
theorem d_M_tablesBy_49 : decode prog_10_method_79_code 49 = .ok (.iload_n 1, 1) := dd_M_tablesBy_49.1
theorem d_M_tablesBy_50 : decode prog_10_method_79_code 50 = .ok (.iload_n 2, 1) := dd_M_tablesBy_49.2.1
theorem d_M_tablesBy_51 : decode prog_10_method_79_code 51 = .ok (.iload_n 3, 1) := dd_M_tablesBy_49.2.2.1
theorem d_M_tablesBy_52 : decode prog_10_method_79_code 52 = .ok (.invokevirtual 309, 3) := dd_M_tablesBy_49.2.2.2.1
theorem d_M_tablesBy_55 : decode prog_10_method_79_code 55 = .ok (.iinc 4 1, 3) := dd_M_tablesBy_49.2.2.2.2.1
theorem d_M_tablesBy_58 : decode prog_10_method_79_code 58 = .ok (.goto (-21), 3) := dd_M_tablesBy_49.2.2.2.2.2.1
theorem d_M_tablesBy_61 : decode prog_10_method_79_code 61 = .ok (.lconst 0, 1) := dd_M_tablesBy_49.2.2.2.2.2.2.1
theorem d_M_tablesBy_62 : decode prog_10_method_79_code 62 = .ok (.lstore 4, 2) := dd_M_tablesBy_49.2.2.2.2.2.2.2.1
theorem d_M_tablesBy_64 : decode prog_10_method_79_code 64 = .ok (.iconst 0, 1) := dd_M_tablesBy_49.2.2.2.2.2.2.2.2.1
theorem d_M_tablesBy_65 : decode prog_10_method_79_code 65 = .ok (.istore 6, 2) := dd_M_tablesBy_49.2.2.2.2.2.2.2.2.2.1
theorem d_M_tablesBy_67 : decode prog_10_method_79_code 67 = .ok (.iload 6, 2) := dd_M_tablesBy_49.2.2.2.2.2.2.2.2.2.2.1
theorem d_M_tablesBy_69 : decode prog_10_method_79_code 69 = .ok (.sipush 216, 3) := dd_M_tablesBy_49.2.2.2.2.2.2.2.2.2.2.2.1
theorem d_M_tablesBy_72 : decode prog_10_method_79_code 72 = .ok (.if_icmp .ge 67, 3) := dd_M_tablesBy_49.2.2.2.2.2.2.2.2.2.2.2.2.1
theorem d_M_tablesBy_75 : decode prog_10_method_79_code 75 = .ok (.lload 4, 2) := dd_M_tablesBy_49.2.2.2.2.2.2.2.2.2.2.2.2.2.1
theorem d_M_tablesBy_77 : decode prog_10_method_79_code 77 = .ok (.aload_n 0, 1) := dd_M_tablesBy_49.2.2.2.2.2.2.2.2.2.2.2.2.2.2.1
theorem d_M_tablesBy_78 : decode prog_10_method_79_code 78 = .ok (.iconst 0, 1) := dd_M_tablesBy_49.2.2.2.2.2.2.2.2.2.2.2.2.2.2.2.1
theorem d_M_tablesBy_79 : decode prog_10_method_79_code 79 = .ok (.iload 6, 2) := dd_M_tablesBy_49.2.2.2.2.2.2.2.2.2.2.2.2.2.2.2.2.1
theorem d_M_tablesBy_81 : decode prog_10_method_79_code 81 = .ok (.bipush 36, 2) := dd_M_tablesBy_49.2.2.2.2.2.2.2.2.2.2.2.2.2.2.2.2.2.1
theorem d_M_tablesBy_83 : decode prog_10_method_79_code 83 = .ok (.idiv, 1) := dd_M_tablesBy_49.2.2.2.2.2.2.2.2.2.2.2.2.2.2.2.2.2.2.1
theorem d_M_tablesBy_84 : decode prog_10_method_79_code 84 = .ok (.invokevirtual 312, 3) := dd_M_tablesBy_49.2.2.2.2.2.2.2.2.2.2.2.2.2.2.2.2.2.2.2.1
theorem d_M_tablesBy_87 : decode prog_10_method_79_code 87 = .ok (.ifCond .eq 42, 3) := dd_M_tablesBy_49.2.2.2.2.2.2.2.2.2.2.2.2.2.2.2.2.2.2.2.2.1
theorem d_M_tablesBy_90 : decode prog_10_method_79_code 90 = .ok (.aload_n 0, 1) := dd_M_tablesBy_49.2.2.2.2.2.2.2.2.2.2.2.2.2.2.2.2.2.2.2.2.2.1
theorem d_M_tablesBy_91 : decode prog_10_method_79_code 91 = .ok (.iconst 1, 1) := dd_M_tablesBy_49.2.2.2.2.2.2.2.2.2.2.2.2.2.2.2.2.2.2.2.2.2.2.1
theorem d_M_tablesBy_92 : decode prog_10_method_79_code 92 = .ok (.iload 6, 2) := dd_M_tablesBy_49.2.2.2.2.2.2.2.2.2.2.2.2.2.2.2.2.2.2.2.2.2.2.2
set_option maxRecDepth 100000 in
theorem dd_M_tablesBy_94 : (decode prog_10_method_79_code 94 = .ok (.bipush 6, 2)) ∧ (decode prog_10_method_79_code 96 = .ok (.idiv, 1)) ∧ (decode prog_10_method_79_code 97 = .ok (.bipush 6, 2)) ∧ (decode prog_10_method_79_code 99 = .ok (.irem, 1)) ∧ (decode prog_10_method_79_code 100 = .ok (.invokevirtual 312, 3)) ∧ (decode prog_10_method_79_code 103 = .ok (.ifCond .eq 26, 3)) ∧ (decode prog_10_method_79_code 106 = .ok (.aload_n 0, 1)) ∧ (decode prog_10_method_79_code 107 = .ok (.iconst 2, 1)) ∧ (decode prog_10_method_79_code 108 = .ok (.iload 6, 2)) ∧ (decode prog_10_method_79_code 110 = .ok (.bipush 6, 2)) ∧ (decode prog_10_method_79_code 112 = .ok (.irem, 1)) ∧ (decode prog_10_method_79_code 113 = .ok (.invokevirtual 312, 3)) ∧ (decode prog_10_method_79_code 116 = .ok (.ifCond .eq 13, 3)) ∧ (decode prog_10_method_79_code 119 = .ok (.aload_n 0, 1)) ∧ (decode prog_10_method_79_code 120 = .ok (.getfield 72, 3)) ∧ (decode prog_10_method_79_code 123 = .ok (.iload 6, 2)) ∧ (decode prog_10_method_79_code 125 = .ok (.laload, 1)) ∧ (decode prog_10_method_79_code 126 = .ok (.goto 4, 3)) ∧ (decode prog_10_method_79_code 129 = .ok (.lconst 0, 1)) ∧ (decode prog_10_method_79_code 130 = .ok (.ladd, 1)) ∧ (decode prog_10_method_79_code 131 = .ok (.lstore 4, 2)) ∧ (decode prog_10_method_79_code 133 = .ok (.iinc 6 1, 3)) ∧ (decode prog_10_method_79_code 136 = .ok (.goto (-69), 3)) ∧ (decode prog_10_method_79_code 139 = .ok (.lload 4, 2)) := by
  have h : List.drop 94 prog_10_method_79_code.data.toList = 0x10 :: _ := rfl
  refine ⟨zq_k_s1 16 (fun z => .bipush z) 6 h rfl (zq_o_16 _) (by decide +kernel), ?_⟩
  replace h := zq_nx2 (q := 96) h rfl
  refine ⟨zq_k_n 108 h rfl (zq_o_108 _), ?_⟩
  replace h := zq_nx1 (q := 97) h rfl
  refine ⟨zq_k_s1 16 (fun z => .bipush z) 6 h rfl (zq_o_16 _) (by decide +kernel), ?_⟩
  replace h := zq_nx2 (q := 99) h rfl
  refine ⟨zq_k_n 112 h rfl (zq_o_112 _), ?_⟩
  replace h := zq_nx1 (q := 100) h rfl
  refine ⟨zq_k_u2 182 (fun z => .invokevirtual z) 312 h rfl (zq_o_182 _) (by decide +kernel), ?_⟩
  replace h := zq_nx3 (q := 103) h rfl
  refine ⟨zq_k_s2 153 (fun z => .ifCond .eq z) 26 h rfl (zq_o_153 _) (by decide +kernel), ?_⟩
  replace h := zq_nx3 (q := 106) h rfl
  refine ⟨zq_k_n 42 h rfl (zq_o_42 _), ?_⟩
  replace h := zq_nx1 (q := 107) h rfl
  refine ⟨zq_k_n 5 h rfl (zq_o_5 _), ?_⟩
  replace h := zq_nx1 (q := 108) h rfl
  refine ⟨zq_k_u1 21 (fun z => .iload z) 6 h rfl (zq_o_21 _) (by decide +kernel), ?_⟩
  replace h := zq_nx2 (q := 110) h rfl
  refine ⟨zq_k_s1 16 (fun z => .bipush z) 6 h rfl (zq_o_16 _) (by decide +kernel), ?_⟩
  replace h := zq_nx2 (q := 112) h rfl
  refine ⟨zq_k_n 112 h rfl (zq_o_112 _), ?_⟩
  replace h := zq_nx1 (q := 113) h rfl
  refine ⟨zq_k_u2 182 (fun z => .invokevirtual z) 312 h rfl (zq_o_182 _) (by decide +kernel), ?_⟩
  replace h := zq_nx3 (q := 116) h rfl
  refine ⟨zq_k_s2 153 (fun z => .ifCond .eq z) 13 h rfl (zq_o_153 _) (by decide +kernel), ?_⟩
  replace h := zq_nx3 (q := 119) h rfl
  refine ⟨zq_k_n 42 h rfl (zq_o_42 _), ?_⟩
  replace h := zq_nx1 (q := 120) h rfl
  refine ⟨zq_k_u2 180 (fun z => .getfield z) 72 h rfl (zq_o_180 _) (by decide +kernel), ?_⟩
  replace h := zq_nx3 (q := 123) h rfl
  refine ⟨zq_k_u1 21 (fun z => .iload z) 6 h rfl (zq_o_21 _) (by decide +kernel), ?_⟩
  replace h := zq_nx2 (q := 125) h rfl
  refine ⟨zq_k_n 47 h rfl (zq_o_47 _), ?_⟩
  replace h := zq_nx1 (q := 126) h rfl
  refine ⟨zq_k_s2 167 (fun z => .goto z) 4 h rfl (zq_o_167 _) (by decide +kernel), ?_⟩
  replace h := zq_nx3 (q := 129) h rfl
  refine ⟨zq_k_n 9 h rfl (zq_o_9 _), ?_⟩
  replace h := zq_nx1 (q := 130) h rfl
  refine ⟨zq_k_n 97 h rfl (zq_o_97 _), ?_⟩
  replace h := zq_nx1 (q := 131) h rfl
  refine ⟨zq_k_u1 55 (fun z => .lstore z) 4 h rfl (zq_o_55 _) (by decide +kernel), ?_⟩
  replace h := zq_nx2 (q := 133) h rfl
  refine ⟨zq_k_iinc 6 1 h rfl (zq_o_132 _) (by decide +kernel) (by decide +kernel), ?_⟩
  replace h := zq_nx3 (q := 136) h rfl
  refine ⟨zq_k_s2 167 (fun z => .goto z) (-69) h rfl (zq_o_167 _) (by decide +kernel), ?_⟩
  replace h := zq_nx3 (q := 139) h rfl
  exact zq_k_u1 22 (fun z => .lload z) 4 h rfl (zq_o_22 _) (by decide +kernel)
theorem d_M_tablesBy_94 : decode prog_10_method_79_code 94 = .ok (.bipush 6, 2) := dd_M_tablesBy_94.1
theorem d_M_tablesBy_96 : decode prog_10_method_79_code 96 = .ok (.idiv, 1) := dd_M_tablesBy_94.2.1
theorem d_M_tablesBy_97 : decode prog_10_method_79_code 97 = .ok (.bipush 6, 2) := dd_M_tablesBy_94.2.2.1
theorem d_M_tablesBy_99 : decode prog_10_method_79_code 99 = .ok (.irem, 1) := dd_M_tablesBy_94.2.2.2.1
theorem d_M_tablesBy_100 : decode prog_10_method_79_code 100 = .ok (.invokevirtual 312, 3) := dd_M_tablesBy_94.2.2.2.2.1
theorem d_M_tablesBy_103 : decode prog_10_method_79_code 103 = .ok (.ifCond .eq 26, 3) := dd_M_tablesBy_94.2.2.2.2.2.1
theorem d_M_tablesBy_106 : decode prog_10_method_79_code 106 = .ok (.aload_n 0, 1) := dd_M_tablesBy_94.2.2.2.2.2.2.1
theorem d_M_tablesBy_107 : decode prog_10_method_79_code 107 = .ok (.iconst 2, 1) := dd_M_tablesBy_94.2.2.2.2.2.2.2.1
theorem d_M_tablesBy_108 : decode prog_10_method_79_code 108 = .ok (.iload 6, 2) := dd_M_tablesBy_94.2.2.2.2.2.2.2.2.1
theorem d_M_tablesBy_110 : decode prog_10_method_79_code 110 = .ok (.bipush 6, 2) := dd_M_tablesBy_94.2.2.2.2.2.2.2.2.2.1
theorem d_M_tablesBy_112 : decode prog_10_method_79_code 112 = .ok (.irem, 1) := dd_M_tablesBy_94.2.2.2.2.2.2.2.2.2.2.1
theorem d_M_tablesBy_113 : decode prog_10_method_79_code 113 = .ok (.invokevirtual 312, 3) := dd_M_tablesBy_94.2.2.2.2.2.2.2.2.2.2.2.1
theorem d_M_tablesBy_116 : decode prog_10_method_79_code 116 = .ok (.ifCond .eq 13, 3) := dd_M_tablesBy_94.2.2.2.2.2.2.2.2.2.2.2.2.1
theorem d_M_tablesBy_119 : decode prog_10_method_79_code 119 = .ok (.aload_n 0, 1) := dd_M_tablesBy_94.2.2.2.2.2.2.2.2.2.2.2.2.2.1
theorem d_M_tablesBy_120 : decode prog_10_method_79_code 120 = .ok (.getfield 72, 3) := dd_M_tablesBy_94.2.2.2.2.2.2.2.2.2.2.2.2.2.2.1
theorem d_M_tablesBy_123 : decode prog_10_method_79_code 123 = .ok (.iload 6, 2) := dd_M_tablesBy_94.2.2.2.2.2.2.2.2.2.2.2.2.2.2.2.1
theorem d_M_tablesBy_125 : decode prog_10_method_79_code 125 = .ok (.laload, 1) := dd_M_tablesBy_94.2.2.2.2.2.2.2.2.2.2.2.2.2.2.2.2.1
theorem d_M_tablesBy_126 : decode prog_10_method_79_code 126 = .ok (.goto 4, 3) := dd_M_tablesBy_94.2.2.2.2.2.2.2.2.2.2.2.2.2.2.2.2.2.1
theorem d_M_tablesBy_129 : decode prog_10_method_79_code 129 = .ok (.lconst 0, 1) := dd_M_tablesBy_94.2.2.2.2.2.2.2.2.2.2.2.2.2.2.2.2.2.2.1
theorem d_M_tablesBy_130 : decode prog_10_method_79_code 130 = .ok (.ladd, 1) := dd_M_tablesBy_94.2.2.2.2.2.2.2.2.2.2.2.2.2.2.2.2.2.2.2.1
theorem d_M_tablesBy_131 : decode prog_10_method_79_code 131 = .ok (.lstore 4, 2) := dd_M_tablesBy_94.2.2.2.2.2.2.2.2.2.2.2.2.2.2.2.2.2.2.2.2.1
theorem d_M_tablesBy_133 : decode prog_10_method_79_code 133 = .ok (.iinc 6 1, 3) := dd_M_tablesBy_94.2.2.2.2.2.2.2.2.2.2.2.2.2.2.2.2.2.2.2.2.2.1
theorem d_M_tablesBy_136 : decode prog_10_method_79_code 136 = .ok (.goto (-69), 3) := dd_M_tablesBy_94.2.2.2.2.2.2.2.2.2.2.2.2.2.2.2.2.2.2.2.2.2.2.1
theorem d_M_tablesBy_139 : decode prog_10_method_79_code 139 = .ok (.lload 4, 2) := dd_M_tablesBy_94.2.2.2.2.2.2.2.2.2.2.2.2.2.2.2.2.2.2.2.2.2.2.2
set_option maxRecDepth 100000 in
theorem dd_M_tablesBy_141 : decode prog_10_method_79_code 141 = .ok (.lreturn, 1) := by
  have h : List.drop 141 prog_10_method_79_code.data.toList = 0xad :: _ := rfl
  exact zq_k_n 173 h rfl (zq_o_173 _)
theorem d_M_tablesBy_141 : decode prog_10_method_79_code 141 = .ok (.lreturn, 1) := dd_M_tablesBy_141
def f_M_tablesBy_130 (rec67 : Nat → Int64 → Int32 → mH → Option (Int64 × mH)) (b0 : Nat) (b6 : Int32) (s0 : Int64) (s1 : Int64) (h : mH) : Option (Int64 × mH) :=
  rec67 b0 (s0 + s1) (b6 + (1 : Int32)) h
set_option maxRecDepth 20000 in
theorem t_M_tablesBy_130 {sc : Nat × (Nat → Int32)} (rec67 : Nat → Int64 → Int32 → mH → Option (Int64 × mH)) (hrec67 : ∀ (b0 : Nat) (b4 : Int64) (b6 : Int32) (h : mH) (r : Int64) (h' : mH), rec67 b0 b4 b6 h = some (r, h') → G sc y_M_tablesBy prog_10_method_79_code 7 (some .long) 2 55 67 [(0, .ref b0), (4, .long b4), (6, .int b6)] [] h (some (.long r)) h') (b0 : Nat) (b6 : Int32) (s0 : Int64) (s1 : Int64) (h : mH) (r : Int64) (h' : mH) (hf : f_M_tablesBy_130 rec67 b0 b6 s0 s1 h = some (r, h')) : G sc y_M_tablesBy prog_10_method_79_code 7 (some .long) 2 55 130 [(0, .ref b0), (6, .int b6)] [.long s1, .long s0] h (some (.long r)) h' := by
  unfold f_M_tablesBy_130 at hf
  refine g_ladd (pc := 130) d_M_tablesBy_130 ?_
  refine g_lstore (pc := 131) [(4, .long (s0 + s1)), (0, .ref b0), (6, .int b6)] d_M_tablesBy_131 (Nat.le_of_ble_eq_true rfl) rfl ?_
  refine g_iinc (pc := 133) 2 (b6 + (1 : Int32)) [(6, .int (b6 + (1 : Int32))), (4, .long (s0 + s1)), (0, .ref b0)] d_M_tablesBy_133 rfl rfl (Nat.le_of_ble_eq_true rfl) rfl ?_
  refine g_goto (pc := 136) 67 d_M_tablesBy_136 (by decide) ?_
  refine g_lv [2, 1, 0] rfl ?_
  exact hrec67 _ _ _ _ _ _  hf
def f_M_tablesBy_129 (rec67 : Nat → Int64 → Int32 → mH → Option (Int64 × mH)) (b0 : Nat) (b6 : Int32) (s0 : Int64) (h : mH) : Option (Int64 × mH) :=
  f_M_tablesBy_130 rec67 b0 b6 s0 (0 : Int64) h
set_option maxRecDepth 20000 in
theorem t_M_tablesBy_129 {sc : Nat × (Nat → Int32)} (rec67 : Nat → Int64 → Int32 → mH → Option (Int64 × mH)) (hrec67 : ∀ (b0 : Nat) (b4 : Int64) (b6 : Int32) (h : mH) (r : Int64) (h' : mH), rec67 b0 b4 b6 h = some (r, h') → G sc y_M_tablesBy prog_10_method_79_code 7 (some .long) 2 55 67 [(0, .ref b0), (4, .long b4), (6, .int b6)] [] h (some (.long r)) h') (b0 : Nat) (b6 : Int32) (s0 : Int64) (h : mH) (r : Int64) (h' : mH) (hf : f_M_tablesBy_129 rec67 b0 b6 s0 h = some (r, h')) : G sc y_M_tablesBy prog_10_method_79_code 7 (some .long) 2 55 129 [(0, .ref b0), (6, .int b6)] [.long s0] h (some (.long r)) h' := by
  unfold f_M_tablesBy_129 at hf
  refine g_lconst (pc := 129) (0 : Int64) d_M_tablesBy_129 (by decide) ?_
  refine g_lv [0, 1] rfl ?_
  exact t_M_tablesBy_130 rec67 hrec67 _ _ _ _ _ _ _  hf
def f_M_tablesBy_67b (rec67 : Nat → Int64 → Int32 → mH → Option (Int64 × mH)) (b0 : Nat) (b4 : Int64) (b6 : Int32) (h : mH) : Option (Int64 × mH) :=
  if (216 : Int32) ≤ b6 then
    some (b4, h)
  else
    bd1 (kC h b0 8) fun _ =>
    bd2 (f_M_isTime b0 (0 : Int32) (b6 / (36 : Int32)) h) fun x18 h16 =>
    if x18 = 0 then
      f_M_tablesBy_129 rec67 b0 b6 b4 h16
    else
      bd1 (kC h16 b0 8) fun _ =>
      bd2 (f_M_isTime b0 (1 : Int32) ((b6 / (6 : Int32)) - (b6 / (6 : Int32)) / (6 : Int32) * (6 : Int32)) h16) fun x23 h21 =>
      if x23 = 0 then
        f_M_tablesBy_129 rec67 b0 b6 b4 h21
      else
        bd1 (kC h21 b0 8) fun _ =>
        bd2 (f_M_isTime b0 (2 : Int32) (b6 - b6 / (6 : Int32) * (6 : Int32)) h21) fun x28 h26 =>
        if x28 = 0 then
          f_M_tablesBy_129 rec67 b0 b6 b4 h26
        else
          bd1 (gR h26 b0 8 33) fun x29 =>
          bd1 (aL h26 x29 b6) fun x31 =>
          f_M_tablesBy_130 rec67 b0 b6 b4 x31 h26
set_option maxRecDepth 20000 in
theorem t_M_tablesBy_67b {sc : Nat × (Nat → Int32)} (rec67 : Nat → Int64 → Int32 → mH → Option (Int64 × mH)) (hrec67 : ∀ (b0 : Nat) (b4 : Int64) (b6 : Int32) (h : mH) (r : Int64) (h' : mH), rec67 b0 b4 b6 h = some (r, h') → G sc y_M_tablesBy prog_10_method_79_code 7 (some .long) 2 55 67 [(0, .ref b0), (4, .long b4), (6, .int b6)] [] h (some (.long r)) h') (b0 : Nat) (b4 : Int64) (b6 : Int32) (h : mH) (r : Int64) (h' : mH) (hf : f_M_tablesBy_67b rec67 b0 b4 b6 h = some (r, h')) : G sc y_M_tablesBy prog_10_method_79_code 7 (some .long) 2 55 67 [(0, .ref b0), (4, .long b4), (6, .int b6)] [] h (some (.long r)) h' := by
  unfold f_M_tablesBy_67b at hf
  refine g_iload (pc := 67) 2 d_M_tablesBy_67 rfl ?_
  refine g_sipush (pc := 69) (216 : Int32) d_M_tablesBy_69 (by decide) ?_
  refine g_icmpge (pc := 72) 139 d_M_tablesBy_72 (by decide) (fun c36 => ?_) (fun c36 => ?_)
  · replace hf := (if_pos c36).symm.trans hf
    refine g_lload (pc := 139) 1 d_M_tablesBy_139 rfl ?_
    obtain ⟨rfl, rfl⟩ := ret2 hf
    exact g_lret (pc := 141) rfl d_M_tablesBy_141
  · replace hf := (if_neg c36).symm.trans hf
    refine g_lload (pc := 75) 1 d_M_tablesBy_75 rfl ?_
    refine g_aload_n (pc := 77) 0 d_M_tablesBy_77 rfl rfl ?_
    refine g_iconst (pc := 78) (0 : Int32) d_M_tablesBy_78 (by decide) ?_
    refine g_iload (pc := 79) 2 d_M_tablesBy_79 rfl ?_
    refine g_bipush (pc := 81) (36 : Int32) d_M_tablesBy_81 (by decide) ?_
    refine g_idiv (pc := 83) d_M_tablesBy_83 (by decide) ?_
    obtain ⟨u15, e14, hf⟩ := bd1_e hf
    obtain ⟨x18, h16, e17, hf⟩ := bd2_e hf
    refine g_callV (pc := 84) (ci := 8) [.int (0 : Int32), .int (b6 / (36 : Int32))] (site_of si_M_isTime (by decide) (by decide)) wd_1365 wd_1367 wp_73 d_M_tablesBy_84 rfl e14 (Nat.le_of_ble_eq_true rfl) (fun z => absurd z (by decide)) (fun z => absurd z (by decide)) (fun z => absurd z (by decide)) (c_M_isTime e17) rfl ?_
    refine g_st [.int x18, .long b4] rfl ?_
    refine g_ifeq (pc := 87) 129 d_M_tablesBy_87 (by decide) (fun c35 => ?_) (fun c35 => ?_)
    · replace hf := (if_pos c35).symm.trans hf
      refine g_lv [0, 2] rfl ?_
      exact t_M_tablesBy_129 rec67 hrec67 _ _ _ _ _ _  hf
    · replace hf := (if_neg c35).symm.trans hf
      refine g_aload_n (pc := 90) 0 d_M_tablesBy_90 rfl rfl ?_
      refine g_iconst (pc := 91) (1 : Int32) d_M_tablesBy_91 (by decide) ?_
      refine g_iload (pc := 92) 2 d_M_tablesBy_92 rfl ?_
      refine g_bipush (pc := 94) (6 : Int32) d_M_tablesBy_94 (by decide) ?_
      refine g_idiv (pc := 96) d_M_tablesBy_96 (by decide) ?_
      refine g_bipush (pc := 97) (6 : Int32) d_M_tablesBy_97 (by decide) ?_
      refine g_irem (pc := 99) d_M_tablesBy_99 (by decide) ?_
      obtain ⟨u20, e19, hf⟩ := bd1_e hf
      obtain ⟨x23, h21, e22, hf⟩ := bd2_e hf
      refine g_callV (pc := 100) (ci := 8) [.int (1 : Int32), .int ((b6 / (6 : Int32)) - (b6 / (6 : Int32)) / (6 : Int32) * (6 : Int32))] (site_of si_M_isTime (by decide) (by decide)) wd_1365 wd_1367 wp_73 d_M_tablesBy_100 rfl e19 (Nat.le_of_ble_eq_true rfl) (fun z => absurd z (by decide)) (fun z => absurd z (by decide)) (fun z => absurd z (by decide)) (c_M_isTime e22) rfl ?_
      refine g_st [.int x23, .long b4] rfl ?_
      refine g_ifeq (pc := 103) 129 d_M_tablesBy_103 (by decide) (fun c34 => ?_) (fun c34 => ?_)
      · replace hf := (if_pos c34).symm.trans hf
        refine g_lv [0, 2] rfl ?_
        exact t_M_tablesBy_129 rec67 hrec67 _ _ _ _ _ _  hf
      · replace hf := (if_neg c34).symm.trans hf
        refine g_aload_n (pc := 106) 0 d_M_tablesBy_106 rfl rfl ?_
        refine g_iconst (pc := 107) (2 : Int32) d_M_tablesBy_107 (by decide) ?_
        refine g_iload (pc := 108) 2 d_M_tablesBy_108 rfl ?_
        refine g_bipush (pc := 110) (6 : Int32) d_M_tablesBy_110 (by decide) ?_
        refine g_irem (pc := 112) d_M_tablesBy_112 (by decide) ?_
        obtain ⟨u25, e24, hf⟩ := bd1_e hf
        obtain ⟨x28, h26, e27, hf⟩ := bd2_e hf
        refine g_callV (pc := 113) (ci := 8) [.int (2 : Int32), .int (b6 - b6 / (6 : Int32) * (6 : Int32))] (site_of si_M_isTime (by decide) (by decide)) wd_1365 wd_1367 wp_73 d_M_tablesBy_113 rfl e24 (Nat.le_of_ble_eq_true rfl) (fun z => absurd z (by decide)) (fun z => absurd z (by decide)) (fun z => absurd z (by decide)) (c_M_isTime e27) rfl ?_
        refine g_st [.int x28, .long b4] rfl ?_
        refine g_ifeq (pc := 116) 129 d_M_tablesBy_116 (by decide) (fun c33 => ?_) (fun c33 => ?_)
        · replace hf := (if_pos c33).symm.trans hf
          refine g_lv [0, 2] rfl ?_
          exact t_M_tablesBy_129 rec67 hrec67 _ _ _ _ _ _  hf
        · replace hf := (if_neg c33).symm.trans hf
          refine g_aload_n (pc := 119) 0 d_M_tablesBy_119 rfl rfl ?_
          obtain ⟨x29, e30, hf⟩ := bd1_e hf
          refine g_get (pc := 120) (ci := 8) (kk := 33) d_M_tablesBy_120 rfl in_M (by decide) wd_971 (gR_spec e30) ?_
          refine g_iload (pc := 123) 2 d_M_tablesBy_123 rfl ?_
          obtain ⟨x31, e32, hf⟩ := bd1_e hf
          refine g_lald (pc := 125) d_M_tablesBy_125 e32 ?_
          refine g_goto (pc := 126) 130 d_M_tablesBy_126 (by decide) ?_
          refine g_lv [0, 2] rfl ?_
          exact t_M_tablesBy_130 rec67 hrec67 _ _ _ _ _ _ _  hf
def f_M_tablesBy_67  : Nat → Nat → Int64 → Int32 → mH → Option (Int64 × mH)
  | 0 => fun _ _ _ _ => none
  | n + 1 => f_M_tablesBy_67b  (f_M_tablesBy_67  n)
theorem t_M_tablesBy_67 {sc : Nat × (Nat → Int32)}  : ∀ (n : Nat) (b0 : Nat) (b4 : Int64) (b6 : Int32) (h : mH) (r : Int64) (h' : mH) (hf : f_M_tablesBy_67  n b0 b4 b6 h = some (r, h')), G sc y_M_tablesBy prog_10_method_79_code 7 (some .long) 2 55 67 [(0, .ref b0), (4, .long b4), (6, .int b6)] [] h (some (.long r)) h'
  | 0, _, _, _, _, _, _, hf => by cases hf
  | n + 1, _, _, _, _, _, _, hf => t_M_tablesBy_67b  (f_M_tablesBy_67  n) (t_M_tablesBy_67  n) _ _ _ _ _ _ hf
def f_M_tablesBy_37b (rec37 : Nat → Int32 → Int32 → Int32 → Int32 → mH → Option (Int64 × mH)) (b0 : Nat) (b1 : Int32) (b2 : Int32) (b3 : Int32) (b4 : Int32) (h : mH) : Option (Int64 × mH) :=
  bd1 (gI h b0 8 2) fun x7 =>
  if x7 ≤ b4 then
    f_M_tablesBy_67  FU b0 (0 : Int64) (0 : Int32) h
  else
    bd1 (kC h b0 8) fun _ =>
    bd1 (f_M_addsLaw b0 b4 b1 b2 b3 h) fun h11 =>
    rec37 b0 b1 b2 b3 (b4 + (1 : Int32)) h11
set_option maxRecDepth 20000 in
theorem t_M_tablesBy_37b {sc : Nat × (Nat → Int32)} (rec37 : Nat → Int32 → Int32 → Int32 → Int32 → mH → Option (Int64 × mH)) (hrec37 : ∀ (b0 : Nat) (b1 : Int32) (b2 : Int32) (b3 : Int32) (b4 : Int32) (h : mH) (r : Int64) (h' : mH), rec37 b0 b1 b2 b3 b4 h = some (r, h') → G sc y_M_tablesBy prog_10_method_79_code 7 (some .long) 2 55 37 [(0, .ref b0), (1, .int b1), (2, .int b2), (3, .int b3), (4, .int b4)] [] h (some (.long r)) h') (b0 : Nat) (b1 : Int32) (b2 : Int32) (b3 : Int32) (b4 : Int32) (h : mH) (r : Int64) (h' : mH) (hf : f_M_tablesBy_37b rec37 b0 b1 b2 b3 b4 h = some (r, h')) : G sc y_M_tablesBy prog_10_method_79_code 7 (some .long) 2 55 37 [(0, .ref b0), (1, .int b1), (2, .int b2), (3, .int b3), (4, .int b4)] [] h (some (.long r)) h' := by
  unfold f_M_tablesBy_37b at hf
  refine g_iload (pc := 37) 4 d_M_tablesBy_37 rfl ?_
  refine g_aload_n (pc := 39) 0 d_M_tablesBy_39 rfl rfl ?_
  obtain ⟨x7, e8, hf⟩ := bd1_e hf
  refine g_get (pc := 40) (ci := 8) (kk := 2) d_M_tablesBy_40 rfl in_M (by decide) wd_940 (gI_spec e8) ?_
  refine g_icmpge (pc := 43) 61 d_M_tablesBy_43 (by decide) (fun c13 => ?_) (fun c13 => ?_)
  · replace hf := (if_pos c13).symm.trans hf
    refine g_lconst (pc := 61) (0 : Int64) d_M_tablesBy_61 (by decide) ?_
    refine g_lstore (pc := 62) [(4, .long (0 : Int64)), (0, .ref b0), (1, .int b1), (2, .int b2), (3, .int b3)] d_M_tablesBy_62 (Nat.le_of_ble_eq_true rfl) rfl ?_
    refine g_iconst (pc := 64) (0 : Int32) d_M_tablesBy_64 (by decide) ?_
    refine g_istore (pc := 65) [(6, .int (0 : Int32)), (4, .long (0 : Int64)), (0, .ref b0), (1, .int b1), (2, .int b2), (3, .int b3)] d_M_tablesBy_65 (Nat.le_of_ble_eq_true rfl) rfl ?_
    refine g_lv [2, 1, 0] rfl ?_
    exact t_M_tablesBy_67  FU _ _ _ _ _ _  hf
  · replace hf := (if_neg c13).symm.trans hf
    refine g_aload_n (pc := 46) 0 d_M_tablesBy_46 rfl rfl ?_
    refine g_iload (pc := 47) 4 d_M_tablesBy_47 rfl ?_
    refine g_iload_n (pc := 49) 1 d_M_tablesBy_49 rfl rfl ?_
    refine g_iload_n (pc := 50) 2 d_M_tablesBy_50 rfl rfl ?_
    refine g_iload_n (pc := 51) 3 d_M_tablesBy_51 rfl rfl ?_
    obtain ⟨u10, e9, hf⟩ := bd1_e hf
    obtain ⟨h11, e12, hf⟩ := bd1_e hf
    refine g_callV (pc := 52) (ci := 8) [.int b4, .int b1, .int b2, .int b3] (site_of si_M_addsLaw (by decide) (by decide)) wd_1345 wd_1347 wp_68 d_M_tablesBy_52 rfl e9 (Nat.le_of_ble_eq_true rfl) (fun z => absurd z (by decide)) (fun z => absurd z (by decide)) (fun z => absurd z (by decide)) (c_M_addsLaw e12) rfl ?_
    refine g_st [] rfl ?_
    refine g_iinc (pc := 55) 4 (b4 + (1 : Int32)) [(4, .int (b4 + (1 : Int32))), (0, .ref b0), (1, .int b1), (2, .int b2), (3, .int b3)] d_M_tablesBy_55 rfl rfl (Nat.le_of_ble_eq_true rfl) rfl ?_
    refine g_goto (pc := 58) 37 d_M_tablesBy_58 (by decide) ?_
    refine g_lv [1, 2, 3, 4, 0] rfl ?_
    exact hrec37 _ _ _ _ _ _ _ _  hf
def f_M_tablesBy_37  : Nat → Nat → Int32 → Int32 → Int32 → Int32 → mH → Option (Int64 × mH)
  | 0 => fun _ _ _ _ _ _ => none
  | n + 1 => f_M_tablesBy_37b  (f_M_tablesBy_37  n)
theorem t_M_tablesBy_37 {sc : Nat × (Nat → Int32)}  : ∀ (n : Nat) (b0 : Nat) (b1 : Int32) (b2 : Int32) (b3 : Int32) (b4 : Int32) (h : mH) (r : Int64) (h' : mH) (hf : f_M_tablesBy_37  n b0 b1 b2 b3 b4 h = some (r, h')), G sc y_M_tablesBy prog_10_method_79_code 7 (some .long) 2 55 37 [(0, .ref b0), (1, .int b1), (2, .int b2), (3, .int b3), (4, .int b4)] [] h (some (.long r)) h'
  | 0, _, _, _, _, _, _, _, _, hf => by cases hf
  | n + 1, _, _, _, _, _, _, _, _, hf => t_M_tablesBy_37b  (f_M_tablesBy_37  n) (t_M_tablesBy_37  n) _ _ _ _ _ _ _ _ hf
def f_M_tablesBy_27 (rec3 : Nat → Int32 → Int32 → Int32 → Int32 → mH → Option (Int64 × mH)) (b0 : Nat) (b1 : Int32) (b2 : Int32) (b3 : Int32) (b4 : Int32) (s0 : Nat) (s1 : Int32) (s2 : Int64) (h : mH) : Option (Int64 × mH) :=
  bd1 (sL h s0 s1 s2) fun h5 =>
  rec3 b0 b1 b2 b3 (b4 + (1 : Int32)) h5
set_option maxRecDepth 20000 in
theorem t_M_tablesBy_27 {sc : Nat × (Nat → Int32)} (rec3 : Nat → Int32 → Int32 → Int32 → Int32 → mH → Option (Int64 × mH)) (hrec3 : ∀ (b0 : Nat) (b1 : Int32) (b2 : Int32) (b3 : Int32) (b4 : Int32) (h : mH) (r : Int64) (h' : mH), rec3 b0 b1 b2 b3 b4 h = some (r, h') → G sc y_M_tablesBy prog_10_method_79_code 7 (some .long) 2 55 3 [(0, .ref b0), (1, .int b1), (2, .int b2), (3, .int b3), (4, .int b4)] [] h (some (.long r)) h') (b0 : Nat) (b1 : Int32) (b2 : Int32) (b3 : Int32) (b4 : Int32) (s0 : Nat) (s1 : Int32) (s2 : Int64) (h : mH) (r : Int64) (h' : mH) (hf : f_M_tablesBy_27 rec3 b0 b1 b2 b3 b4 s0 s1 s2 h = some (r, h')) : G sc y_M_tablesBy prog_10_method_79_code 7 (some .long) 2 55 27 [(0, .ref b0), (1, .int b1), (2, .int b2), (3, .int b3), (4, .int b4)] [.long s2, .int s1, .ref s0] h (some (.long r)) h' := by
  unfold f_M_tablesBy_27 at hf
  obtain ⟨h5, e6, hf⟩ := bd1_e hf
  refine g_last (pc := 27) d_M_tablesBy_27 e6 ?_
  refine g_iinc (pc := 28) 4 (b4 + (1 : Int32)) [(4, .int (b4 + (1 : Int32))), (0, .ref b0), (1, .int b1), (2, .int b2), (3, .int b3)] d_M_tablesBy_28 rfl rfl (Nat.le_of_ble_eq_true rfl) rfl ?_
  refine g_goto (pc := 31) 3 d_M_tablesBy_31 (by decide) ?_
  refine g_lv [1, 2, 3, 4, 0] rfl ?_
  exact hrec3 _ _ _ _ _ _ _ _  hf
def f_M_tablesBy_3b (rec3 : Nat → Int32 → Int32 → Int32 → Int32 → mH → Option (Int64 × mH)) (b0 : Nat) (b1 : Int32) (b2 : Int32) (b3 : Int32) (b4 : Int32) (h : mH) : Option (Int64 × mH) :=
  if (216 : Int32) ≤ b4 then
    f_M_tablesBy_37  FU b0 b1 b2 b3 (0 : Int32) h
  else
    bd1 (gR h b0 8 33) fun x1 =>
    if b4 = 0 then
      f_M_tablesBy_27 rec3 b0 b1 b2 b3 b4 x1 b4 (1 : Int64) h
    else
      f_M_tablesBy_27 rec3 b0 b1 b2 b3 b4 x1 b4 (0 : Int64) h
set_option maxRecDepth 20000 in
theorem t_M_tablesBy_3b {sc : Nat × (Nat → Int32)} (rec3 : Nat → Int32 → Int32 → Int32 → Int32 → mH → Option (Int64 × mH)) (hrec3 : ∀ (b0 : Nat) (b1 : Int32) (b2 : Int32) (b3 : Int32) (b4 : Int32) (h : mH) (r : Int64) (h' : mH), rec3 b0 b1 b2 b3 b4 h = some (r, h') → G sc y_M_tablesBy prog_10_method_79_code 7 (some .long) 2 55 3 [(0, .ref b0), (1, .int b1), (2, .int b2), (3, .int b3), (4, .int b4)] [] h (some (.long r)) h') (b0 : Nat) (b1 : Int32) (b2 : Int32) (b3 : Int32) (b4 : Int32) (h : mH) (r : Int64) (h' : mH) (hf : f_M_tablesBy_3b rec3 b0 b1 b2 b3 b4 h = some (r, h')) : G sc y_M_tablesBy prog_10_method_79_code 7 (some .long) 2 55 3 [(0, .ref b0), (1, .int b1), (2, .int b2), (3, .int b3), (4, .int b4)] [] h (some (.long r)) h' := by
  unfold f_M_tablesBy_3b at hf
  refine g_iload (pc := 3) 4 d_M_tablesBy_3 rfl ?_
  refine g_sipush (pc := 5) (216 : Int32) d_M_tablesBy_5 (by decide) ?_
  refine g_icmpge (pc := 8) 34 d_M_tablesBy_8 (by decide) (fun c4 => ?_) (fun c4 => ?_)
  · replace hf := (if_pos c4).symm.trans hf
    refine g_iconst (pc := 34) (0 : Int32) d_M_tablesBy_34 (by decide) ?_
    refine g_istore (pc := 35) [(4, .int (0 : Int32)), (0, .ref b0), (1, .int b1), (2, .int b2), (3, .int b3)] d_M_tablesBy_35 (Nat.le_of_ble_eq_true rfl) rfl ?_
    refine g_lv [1, 2, 3, 4, 0] rfl ?_
    exact t_M_tablesBy_37  FU _ _ _ _ _ _ _ _  hf
  · replace hf := (if_neg c4).symm.trans hf
    refine g_aload_n (pc := 11) 0 d_M_tablesBy_11 rfl rfl ?_
    obtain ⟨x1, e2, hf⟩ := bd1_e hf
    refine g_get (pc := 12) (ci := 8) (kk := 33) d_M_tablesBy_12 rfl in_M (by decide) wd_971 (gR_spec e2) ?_
    refine g_iload (pc := 15) 4 d_M_tablesBy_15 rfl ?_
    refine g_iload (pc := 17) 4 d_M_tablesBy_17 rfl ?_
    refine g_ifne (pc := 19) 26 d_M_tablesBy_19 (by decide) (fun c3 => ?_) (fun c3 => ?_)
    · replace hf := (if_neg c3).symm.trans hf
      refine g_lconst (pc := 26) (0 : Int64) d_M_tablesBy_26 (by decide) ?_
      refine g_lv [0, 1, 2, 3, 4] rfl ?_
      exact t_M_tablesBy_27 rec3 hrec3 _ _ _ _ _ _ _ _ _ _ _  hf
    · replace hf := (if_pos c3).symm.trans hf
      refine g_lconst (pc := 22) (1 : Int64) d_M_tablesBy_22 (by decide) ?_
      refine g_goto (pc := 23) 27 d_M_tablesBy_23 (by decide) ?_
      refine g_lv [0, 1, 2, 3, 4] rfl ?_
      exact t_M_tablesBy_27 rec3 hrec3 _ _ _ _ _ _ _ _ _ _ _  hf
def f_M_tablesBy_3  : Nat → Nat → Int32 → Int32 → Int32 → Int32 → mH → Option (Int64 × mH)
  | 0 => fun _ _ _ _ _ _ => none
  | n + 1 => f_M_tablesBy_3b  (f_M_tablesBy_3  n)
theorem t_M_tablesBy_3 {sc : Nat × (Nat → Int32)}  : ∀ (n : Nat) (b0 : Nat) (b1 : Int32) (b2 : Int32) (b3 : Int32) (b4 : Int32) (h : mH) (r : Int64) (h' : mH) (hf : f_M_tablesBy_3  n b0 b1 b2 b3 b4 h = some (r, h')), G sc y_M_tablesBy prog_10_method_79_code 7 (some .long) 2 55 3 [(0, .ref b0), (1, .int b1), (2, .int b2), (3, .int b3), (4, .int b4)] [] h (some (.long r)) h'
  | 0, _, _, _, _, _, _, _, _, hf => by cases hf
  | n + 1, _, _, _, _, _, _, _, _, hf => t_M_tablesBy_3b  (f_M_tablesBy_3  n) (t_M_tablesBy_3  n) _ _ _ _ _ _ _ _ hf
def f_M_tablesBy_0  (a0 : Nat) (a1 : Int32) (a2 : Int32) (a3 : Int32) (h : mH) : Option (Int64 × mH) :=
  f_M_tablesBy_3  FU a0 a1 a2 a3 (0 : Int32) h
set_option maxRecDepth 20000 in
theorem t_M_tablesBy_0 {sc : Nat × (Nat → Int32)}  (a0 : Nat) (a1 : Int32) (a2 : Int32) (a3 : Int32) (h : mH) (r : Int64) (h' : mH) (hf : f_M_tablesBy_0  a0 a1 a2 a3 h = some (r, h')) : G sc y_M_tablesBy prog_10_method_79_code 7 (some .long) 2 55 0 [(0, .ref a0), (1, .int a1), (2, .int a2), (3, .int a3)] [] h (some (.long r)) h' := by
  unfold f_M_tablesBy_0 at hf
  refine g_iconst (pc := 0) (0 : Int32) d_M_tablesBy_0 (by decide) ?_
  refine g_istore (pc := 1) [(4, .int (0 : Int32)), (0, .ref a0), (1, .int a1), (2, .int a2), (3, .int a3)] d_M_tablesBy_1 (Nat.le_of_ble_eq_true rfl) rfl ?_
  refine g_lv [1, 2, 3, 4, 0] rfl ?_
  exact t_M_tablesBy_3  FU _ _ _ _ _ _ _ _  hf
def f_M_tablesBy (a0 : Nat) (a1 : Int32) (a2 : Int32) (a3 : Int32) (h : mH) : Option (Int64 × mH) := f_M_tablesBy_0 a0 a1 a2 a3 h
theorem c_M_tablesBy {sc : Nat × (Nat → Int32)} {a0 : Nat} {a1 : Int32} {a2 : Int32} {a3 : Int32} {h : mH} {r : Int64} {h' : mH} (hf : f_M_tablesBy a0 a1 a2 a3 h = some (r, h')) : MM sc y_M_tablesBy prog_10_method_79_code 7 (some .long) 2 55 [.ref a0, .int a1, .int a2, .int a3] h (some (.long r)) h' :=
  mm_of_G (by decide) (Nat.le_of_ble_eq_true rfl) (t_M_tablesBy_0 _ _ _ _ _ _ _ hf)
/-! M books ()J -/
set_option maxRecDepth 100000 in
theorem dd_M_books_0 : (decode prog_10_method_80_code 0 = .ok (.aload_n 0, 1)) ∧ (decode prog_10_method_80_code 1 = .ok (.bipush (-4), 2)) ∧ (decode prog_10_method_80_code 3 = .ok (.bipush (-4), 2)) ∧ (decode prog_10_method_80_code 5 = .ok (.iconst 0, 1)) ∧ (decode prog_10_method_80_code 6 = .ok (.invokevirtual 315, 3)) ∧ (decode prog_10_method_80_code 9 = .ok (.lreturn, 1)) := by
  have h : List.drop 0 prog_10_method_80_code.data.toList = 0x2a :: _ := rfl
  refine ⟨zq_k_n 42 h rfl (zq_o_42 _), ?_⟩
  replace h := zq_nx1 (q := 1) h rfl
  refine ⟨zq_k_s1 16 (fun z => .bipush z) (-4) h rfl (zq_o_16 _) (by decide +kernel), ?_⟩
  replace h := zq_nx2 (q := 3) h rfl
  refine ⟨zq_k_s1 16 (fun z => .bipush z) (-4) h rfl (zq_o_16 _) (by decide +kernel), ?_⟩
  replace h := zq_nx2 (q := 5) h rfl
  refine ⟨zq_k_n 3 h rfl (zq_o_3 _), ?_⟩
  replace h := zq_nx1 (q := 6) h rfl
  refine ⟨zq_k_u2 182 (fun z => .invokevirtual z) 315 h rfl (zq_o_182 _) (by decide +kernel), ?_⟩
  replace h := zq_nx3 (q := 9) h rfl
  exact zq_k_n 173 h rfl (zq_o_173 _)
theorem d_M_books_0 : decode prog_10_method_80_code 0 = .ok (.aload_n 0, 1) := dd_M_books_0.1
theorem d_M_books_1 : decode prog_10_method_80_code 1 = .ok (.bipush (-4), 2) := dd_M_books_0.2.1
theorem d_M_books_3 : decode prog_10_method_80_code 3 = .ok (.bipush (-4), 2) := dd_M_books_0.2.2.1
theorem d_M_books_5 : decode prog_10_method_80_code 5 = .ok (.iconst 0, 1) := dd_M_books_0.2.2.2.1
theorem d_M_books_6 : decode prog_10_method_80_code 6 = .ok (.invokevirtual 315, 3) := dd_M_books_0.2.2.2.2.1
theorem d_M_books_9 : decode prog_10_method_80_code 9 = .ok (.lreturn, 1) := dd_M_books_0.2.2.2.2.2
def f_M_books_0  (a0 : Nat) (h : mH) : Option (Int64 × mH) :=
  bd1 (kC h a0 8) fun _ =>
  bd2 (f_M_tablesBy a0 ((-4) : Int32) ((-4) : Int32) (0 : Int32) h) fun x5 h3 =>
  some (x5, h3)
set_option maxRecDepth 20000 in
theorem t_M_books_0 {sc : Nat × (Nat → Int32)}  (a0 : Nat) (h : mH) (r : Int64) (h' : mH) (hf : f_M_books_0  a0 h = some (r, h')) : G sc y_M_books prog_10_method_80_code 1 (some .long) 3 81 0 [(0, .ref a0)] [] h (some (.long r)) h' := by
  unfold f_M_books_0 at hf
  refine g_aload_n (pc := 0) 0 d_M_books_0 rfl rfl ?_
  refine g_bipush (pc := 1) ((-4) : Int32) d_M_books_1 (by decide) ?_
  refine g_bipush (pc := 3) ((-4) : Int32) d_M_books_3 (by decide) ?_
  refine g_iconst (pc := 5) (0 : Int32) d_M_books_5 (by decide) ?_
  obtain ⟨u2, e1, hf⟩ := bd1_e hf
  obtain ⟨x5, h3, e4, hf⟩ := bd2_e hf
  refine g_callV (pc := 6) (ci := 8) [.int ((-4) : Int32), .int ((-4) : Int32), .int (0 : Int32)] (site_of si_M_tablesBy (by decide) (by decide)) wd_1341 wd_1343 wp_67 d_M_books_6 rfl e1 (Nat.le_of_ble_eq_true rfl) (fun z => absurd z (by decide)) (fun z => absurd z (by decide)) (fun z => absurd z (by decide)) (c_M_tablesBy e4) rfl ?_
  refine g_st [.long x5] rfl ?_
  obtain ⟨rfl, rfl⟩ := ret2 hf
  exact g_lret (pc := 9) rfl d_M_books_9
def f_M_books (a0 : Nat) (h : mH) : Option (Int64 × mH) := f_M_books_0 a0 h
theorem c_M_books {sc : Nat × (Nat → Int32)} {a0 : Nat} {h : mH} {r : Int64} {h' : mH} (hf : f_M_books a0 h = some (r, h')) : MM sc y_M_books prog_10_method_80_code 1 (some .long) 3 81 [.ref a0] h (some (.long r)) h' :=
  mm_of_G (by decide) (Nat.le_of_ble_eq_true rfl) (t_M_books_0 _ _ _ _ hf)
/-! M entry (III)I -/
set_option maxRecDepth 100000 in
theorem dd_M_entry_0 : (decode prog_10_method_81_code 0 = .ok (.aload_n 0, 1)) ∧ (decode prog_10_method_81_code 1 = .ok (.iload_n 1, 1)) ∧ (decode prog_10_method_81_code 2 = .ok (.invokevirtual 213, 3)) ∧ (decode prog_10_method_81_code 5 = .ok (.ifCond .eq 21, 3)) ∧ (decode prog_10_method_81_code 8 = .ok (.aload_n 0, 1)) ∧ (decode prog_10_method_81_code 9 = .ok (.iload_n 2, 1)) ∧ (decode prog_10_method_81_code 10 = .ok (.invokevirtual 210, 3)) ∧ (decode prog_10_method_81_code 13 = .ok (.ifCond .eq 13, 3)) ∧ (decode prog_10_method_81_code 16 = .ok (.iload_n 3, 1)) ∧ (decode prog_10_method_81_code 17 = .ok (.i2l, 1)) ∧ (decode prog_10_method_81_code 18 = .ok (.lconst 0, 1)) ∧ (decode prog_10_method_81_code 19 = .ok (.lconst 1, 1)) ∧ (decode prog_10_method_81_code 20 = .ok (.invokestatic 114, 3)) ∧ (decode prog_10_method_81_code 23 = .ok (.ifCond .ne 5, 3)) ∧ (decode prog_10_method_81_code 26 = .ok (.iconst (-1), 1)) ∧ (decode prog_10_method_81_code 27 = .ok (.ireturn, 1)) ∧ (decode prog_10_method_81_code 28 = .ok (.bipush (-4), 2)) ∧ (decode prog_10_method_81_code 30 = .ok (.istore 4, 2)) ∧ (decode prog_10_method_81_code 32 = .ok (.bipush (-4), 2)) ∧ (decode prog_10_method_81_code 34 = .ok (.istore 5, 2)) ∧ (decode prog_10_method_81_code 36 = .ok (.iconst 0, 1)) ∧ (decode prog_10_method_81_code 37 = .ok (.istore 6, 2)) ∧ (decode prog_10_method_81_code 39 = .ok (.iload 6, 2)) ∧ (decode prog_10_method_81_code 41 = .ok (.iconst 3, 1)) := by
  have h : List.drop 0 prog_10_method_81_code.data.toList = 0x2a :: _ := rfl
  refine ⟨zq_k_n 42 h rfl (zq_o_42 _), ?_⟩
  replace h := zq_nx1 (q := 1) h rfl
  refine ⟨zq_k_n 27 h rfl (zq_o_27 _), ?_⟩
  replace h := zq_nx1 (q := 2) h rfl
  refine ⟨zq_k_u2 182 (fun z => .invokevirtual z) 213 h rfl (zq_o_182 _) (by decide +kernel), ?_⟩
  replace h := zq_nx3 (q := 5) h rfl
  refine ⟨zq_k_s2 153 (fun z => .ifCond .eq z) 21 h rfl (zq_o_153 _) (by decide +kernel), ?_⟩
  replace h := zq_nx3 (q := 8) h rfl
  refine ⟨zq_k_n 42 h rfl (zq_o_42 _), ?_⟩
  replace h := zq_nx1 (q := 9) h rfl
  refine ⟨zq_k_n 28 h rfl (zq_o_28 _), ?_⟩
  replace h := zq_nx1 (q := 10) h rfl
  refine ⟨zq_k_u2 182 (fun z => .invokevirtual z) 210 h rfl (zq_o_182 _) (by decide +kernel), ?_⟩
  replace h := zq_nx3 (q := 13) h rfl
  refine ⟨zq_k_s2 153 (fun z => .ifCond .eq z) 13 h rfl (zq_o_153 _) (by decide +kernel), ?_⟩
  replace h := zq_nx3 (q := 16) h rfl
  refine ⟨zq_k_n 29 h rfl (zq_o_29 _), ?_⟩
  replace h := zq_nx1 (q := 17) h rfl
  refine ⟨zq_k_n 133 h rfl (zq_o_133 _), ?_⟩
  replace h := zq_nx1 (q := 18) h rfl
  refine ⟨zq_k_n 9 h rfl (zq_o_9 _), ?_⟩
  replace h := zq_nx1 (q := 19) h rfl
  refine ⟨zq_k_n 10 h rfl (zq_o_10 _), ?_⟩
  replace h := zq_nx1 (q := 20) h rfl
  refine ⟨zq_k_u2 184 (fun z => .invokestatic z) 114 h rfl (zq_o_184 _) (by decide +kernel), ?_⟩
  replace h := zq_nx3 (q := 23) h rfl
  refine ⟨zq_k_s2 154 (fun z => .ifCond .ne z) 5 h rfl (zq_o_154 _) (by decide +kernel), ?_⟩
  replace h := zq_nx3 (q := 26) h rfl
  refine ⟨zq_k_n 2 h rfl (zq_o_2 _), ?_⟩
  replace h := zq_nx1 (q := 27) h rfl
  refine ⟨zq_k_n 172 h rfl (zq_o_172 _), ?_⟩
  replace h := zq_nx1 (q := 28) h rfl
  refine ⟨zq_k_s1 16 (fun z => .bipush z) (-4) h rfl (zq_o_16 _) (by decide +kernel), ?_⟩
  replace h := zq_nx2 (q := 30) h rfl
  refine ⟨zq_k_u1 54 (fun z => .istore z) 4 h rfl (zq_o_54 _) (by decide +kernel), ?_⟩
  replace h := zq_nx2 (q := 32) h rfl
  refine ⟨zq_k_s1 16 (fun z => .bipush z) (-4) h rfl (zq_o_16 _) (by decide +kernel), ?_⟩
  replace h := zq_nx2 (q := 34) h rfl
  refine ⟨zq_k_u1 54 (fun z => .istore z) 5 h rfl (zq_o_54 _) (by decide +kernel), ?_⟩
  replace h := zq_nx2 (q := 36) h rfl
  refine ⟨zq_k_n 3 h rfl (zq_o_3 _), ?_⟩
  replace h := zq_nx1 (q := 37) h rfl
  refine ⟨zq_k_u1 54 (fun z => .istore z) 6 h rfl (zq_o_54 _) (by decide +kernel), ?_⟩
  replace h := zq_nx2 (q := 39) h rfl
  refine ⟨zq_k_u1 21 (fun z => .iload z) 6 h rfl (zq_o_21 _) (by decide +kernel), ?_⟩
  replace h := zq_nx2 (q := 41) h rfl
  exact zq_k_n 6 h rfl (zq_o_6 _)
theorem d_M_entry_0 : decode prog_10_method_81_code 0 = .ok (.aload_n 0, 1) := dd_M_entry_0.1
theorem d_M_entry_1 : decode prog_10_method_81_code 1 = .ok (.iload_n 1, 1) := dd_M_entry_0.2.1
theorem d_M_entry_2 : decode prog_10_method_81_code 2 = .ok (.invokevirtual 213, 3) := dd_M_entry_0.2.2.1
theorem d_M_entry_5 : decode prog_10_method_81_code 5 = .ok (.ifCond .eq 21, 3) := dd_M_entry_0.2.2.2.1
theorem d_M_entry_8 : decode prog_10_method_81_code 8 = .ok (.aload_n 0, 1) := dd_M_entry_0.2.2.2.2.1
theorem d_M_entry_9 : decode prog_10_method_81_code 9 = .ok (.iload_n 2, 1) := dd_M_entry_0.2.2.2.2.2.1
theorem d_M_entry_10 : decode prog_10_method_81_code 10 = .ok (.invokevirtual 210, 3) := dd_M_entry_0.2.2.2.2.2.2.1
theorem d_M_entry_13 : decode prog_10_method_81_code 13 = .ok (.ifCond .eq 13, 3) := dd_M_entry_0.2.2.2.2.2.2.2.1
theorem d_M_entry_16 : decode prog_10_method_81_code 16 = .ok (.iload_n 3, 1) := dd_M_entry_0.2.2.2.2.2.2.2.2.1
theorem d_M_entry_17 : decode prog_10_method_81_code 17 = .ok (.i2l, 1) := dd_M_entry_0.2.2.2.2.2.2.2.2.2.1
theorem d_M_entry_18 : decode prog_10_method_81_code 18 = .ok (.lconst 0, 1) := dd_M_entry_0.2.2.2.2.2.2.2.2.2.2.1
theorem d_M_entry_19 : decode prog_10_method_81_code 19 = .ok (.lconst 1, 1) := dd_M_entry_0.2.2.2.2.2.2.2.2.2.2.2.1
theorem d_M_entry_20 : decode prog_10_method_81_code 20 = .ok (.invokestatic 114, 3) := dd_M_entry_0.2.2.2.2.2.2.2.2.2.2.2.2.1
theorem d_M_entry_23 : decode prog_10_method_81_code 23 = .ok (.ifCond .ne 5, 3) := dd_M_entry_0.2.2.2.2.2.2.2.2.2.2.2.2.2.1
theorem d_M_entry_26 : decode prog_10_method_81_code 26 = .ok (.iconst (-1), 1) := dd_M_entry_0.2.2.2.2.2.2.2.2.2.2.2.2.2.2.1
theorem d_M_entry_27 : decode prog_10_method_81_code 27 = .ok (.ireturn, 1) := dd_M_entry_0.2.2.2.2.2.2.2.2.2.2.2.2.2.2.2.1
theorem d_M_entry_28 : decode prog_10_method_81_code 28 = .ok (.bipush (-4), 2) := dd_M_entry_0.2.2.2.2.2.2.2.2.2.2.2.2.2.2.2.2.1
theorem d_M_entry_30 : decode prog_10_method_81_code 30 = .ok (.istore 4, 2) := dd_M_entry_0.2.2.2.2.2.2.2.2.2.2.2.2.2.2.2.2.2.1
theorem d_M_entry_32 : decode prog_10_method_81_code 32 = .ok (.bipush (-4), 2) := dd_M_entry_0.2.2.2.2.2.2.2.2.2.2.2.2.2.2.2.2.2.2.1
theorem d_M_entry_34 : decode prog_10_method_81_code 34 = .ok (.istore 5, 2) := dd_M_entry_0.2.2.2.2.2.2.2.2.2.2.2.2.2.2.2.2.2.2.2.1
theorem d_M_entry_36 : decode prog_10_method_81_code 36 = .ok (.iconst 0, 1) := dd_M_entry_0.2.2.2.2.2.2.2.2.2.2.2.2.2.2.2.2.2.2.2.2.1
theorem d_M_entry_37 : decode prog_10_method_81_code 37 = .ok (.istore 6, 2) := dd_M_entry_0.2.2.2.2.2.2.2.2.2.2.2.2.2.2.2.2.2.2.2.2.2.1
theorem d_M_entry_39 : decode prog_10_method_81_code 39 = .ok (.iload 6, 2) := dd_M_entry_0.2.2.2.2.2.2.2.2.2.2.2.2.2.2.2.2.2.2.2.2.2.2.1
theorem d_M_entry_41 : decode prog_10_method_81_code 41 = .ok (.iconst 3, 1) := dd_M_entry_0.2.2.2.2.2.2.2.2.2.2.2.2.2.2.2.2.2.2.2.2.2.2.2
set_option maxRecDepth 100000 in
theorem dd_M_entry_42 : (decode prog_10_method_81_code 42 = .ok (.if_icmp .gt 64, 3)) ∧ (decode prog_10_method_81_code 45 = .ok (.aload_n 0, 1)) ∧ (decode prog_10_method_81_code 46 = .ok (.iload_n 1, 1)) ∧ (decode prog_10_method_81_code 47 = .ok (.iload_n 2, 1)) ∧ (decode prog_10_method_81_code 48 = .ok (.iload 6, 2)) ∧ (decode prog_10_method_81_code 50 = .ok (.invokevirtual 315, 3)) ∧ (decode prog_10_method_81_code 53 = .ok (.lconst 0, 1)) ∧ (decode prog_10_method_81_code 54 = .ok (.lcmp, 1)) ∧ (decode prog_10_method_81_code 55 = .ok (.ifCond .le 7, 3)) ∧ (decode prog_10_method_81_code 58 = .ok (.iconst 1, 1)) ∧ (decode prog_10_method_81_code 59 = .ok (.goto 4, 3)) ∧ (decode prog_10_method_81_code 62 = .ok (.iconst 0, 1)) ∧ (decode prog_10_method_81_code 63 = .ok (.istore 7, 2)) ∧ (decode prog_10_method_81_code 65 = .ok (.iload 7, 2)) ∧ (decode prog_10_method_81_code 67 = .ok (.ifCond .eq 15, 3)) ∧ (decode prog_10_method_81_code 70 = .ok (.iload 4, 2)) ∧ (decode prog_10_method_81_code 72 = .ok (.bipush (-4), 2)) ∧ (decode prog_10_method_81_code 74 = .ok (.if_icmp .ne 8, 3)) ∧ (decode prog_10_method_81_code 77 = .ok (.iload 6, 2)) ∧ (decode prog_10_method_81_code 79 = .ok (.goto 5, 3)) ∧ (decode prog_10_method_81_code 82 = .ok (.iload 4, 2)) ∧ (decode prog_10_method_81_code 84 = .ok (.istore 4, 2)) ∧ (decode prog_10_method_81_code 86 = .ok (.iload 7, 2)) ∧ (decode prog_10_method_81_code 88 = .ok (.ifCond .eq 8, 3)) := by
  have h : List.drop 42 prog_10_method_81_code.data.toList = 0xa3 :: _ := rfl
  refine ⟨zq_k_s2 163 (fun z => .if_icmp .gt z) 64 h rfl (zq_o_163 _) (by decide +kernel), ?_⟩
  replace h := zq_nx3 (q := 45) h rfl
  refine ⟨zq_k_n 42 h rfl (zq_o_42 _), ?_⟩
  replace h := zq_nx1 (q := 46) h rfl
  refine ⟨zq_k_n 27 h rfl (zq_o_27 _), ?_⟩
  replace h := zq_nx1 (q := 47) h rfl
  refine ⟨zq_k_n 28 h rfl (zq_o_28 _), ?_⟩
  replace h := zq_nx1 (q := 48) h rfl
  refine ⟨zq_k_u1 21 (fun z => .iload z) 6 h rfl (zq_o_21 _) (by decide +kernel), ?_⟩
  replace h := zq_nx2 (q := 50) h rfl
  refine ⟨zq_k_u2 182 (fun z => .invokevirtual z) 315 h rfl (zq_o_182 _) (by decide +kernel), ?_⟩
  replace h := zq_nx3 (q := 53) h rfl
  refine ⟨zq_k_n 9 h rfl (zq_o_9 _), ?_⟩
  replace h := zq_nx1 (q := 54) h rfl
  refine ⟨zq_k_n 148 h rfl (zq_o_148 _), ?_⟩
  replace h := zq_nx1 (q := 55) h rfl
  refine ⟨zq_k_s2 158 (fun z => .ifCond .le z) 7 h rfl (zq_o_158 _) (by decide +kernel), ?_⟩
  replace h := zq_nx3 (q := 58) h rfl
  refine ⟨zq_k_n 4 h rfl (zq_o_4 _), ?_⟩
  replace h := zq_nx1 (q := 59) h rfl
  refine ⟨zq_k_s2 167 (fun z => .goto z) 4 h rfl (zq_o_167 _) (by decide +kernel), ?_⟩
  replace h := zq_nx3 (q := 62) h rfl
  refine ⟨zq_k_n 3 h rfl (zq_o_3 _), ?_⟩
  replace h := zq_nx1 (q := 63) h rfl
  refine ⟨zq_k_u1 54 (fun z => .istore z) 7 h rfl (zq_o_54 _) (by decide +kernel), ?_⟩
  replace h := zq_nx2 (q := 65) h rfl
  refine ⟨zq_k_u1 21 (fun z => .iload z) 7 h rfl (zq_o_21 _) (by decide +kernel), ?_⟩
  replace h := zq_nx2 (q := 67) h rfl
  refine ⟨zq_k_s2 153 (fun z => .ifCond .eq z) 15 h rfl (zq_o_153 _) (by decide +kernel), ?_⟩
  replace h := zq_nx3 (q := 70) h rfl
  refine ⟨zq_k_u1 21 (fun z => .iload z) 4 h rfl (zq_o_21 _) (by decide +kernel), ?_⟩
  replace h := zq_nx2 (q := 72) h rfl
  refine ⟨zq_k_s1 16 (fun z => .bipush z) (-4) h rfl (zq_o_16 _) (by decide +kernel), ?_⟩
  replace h := zq_nx2 (q := 74) h rfl
  refine ⟨zq_k_s2 160 (fun z => .if_icmp .ne z) 8 h rfl (zq_o_160 _) (by decide +kernel), ?_⟩
  replace h := zq_nx3 (q := 77) h rfl
  refine ⟨zq_k_u1 21 (fun z => .iload z) 6 h rfl (zq_o_21 _) (by decide +kernel), ?_⟩
  replace h := zq_nx2 (q := 79) h rfl
  refine ⟨zq_k_s2 167 (fun z => .goto z) 5 h rfl (zq_o_167 _) (by decide +kernel), ?_⟩
  replace h := zq_nx3 (q := 82) h rfl
  refine ⟨zq_k_u1 21 (fun z => .iload z) 4 h rfl (zq_o_21 _) (by decide +kernel), ?_⟩
  replace h := zq_nx2 (q := 84) h rfl
  refine ⟨zq_k_u1 54 (fun z => .istore z) 4 h rfl (zq_o_54 _) (by decide +kernel), ?_⟩
  replace h := zq_nx2 (q := 86) h rfl
  refine ⟨zq_k_u1 21 (fun z => .iload z) 7 h rfl (zq_o_21 _) (by decide +kernel), ?_⟩
  replace h := zq_nx2 (q := 88) h rfl
  exact zq_k_s2 153 (fun z => .ifCond .eq z) 8 h rfl (zq_o_153 _) (by decide +kernel)
theorem d_M_entry_42 : decode prog_10_method_81_code 42 = .ok (.if_icmp .gt 64, 3) := dd_M_entry_42.1
theorem d_M_entry_45 : decode prog_10_method_81_code 45 = .ok (.aload_n 0, 1) := dd_M_entry_42.2.1
theorem d_M_entry_46 : decode prog_10_method_81_code 46 = .ok (.iload_n 1, 1) := dd_M_entry_42.2.2.1
theorem d_M_entry_47 : decode prog_10_method_81_code 47 = .ok (.iload_n 2, 1) := dd_M_entry_42.2.2.2.1
theorem d_M_entry_48 : decode prog_10_method_81_code 48 = .ok (.iload 6, 2) := dd_M_entry_42.2.2.2.2.1
theorem d_M_entry_50 : decode prog_10_method_81_code 50 = .ok (.invokevirtual 315, 3) := dd_M_entry_42.2.2.2.2.2.1
theorem d_M_entry_53 : decode prog_10_method_81_code 53 = .ok (.lconst 0, 1) := dd_M_entry_42.2.2.2.2.2.2.1
theorem d_M_entry_54 : decode prog_10_method_81_code 54 = .ok (.lcmp, 1) := dd_M_entry_42.2.2.2.2.2.2.2.1
theorem d_M_entry_55 : decode prog_10_method_81_code 55 = .ok (.ifCond .le 7, 3) := dd_M_entry_42.2.2.2.2.2.2.2.2.1
theorem d_M_entry_58 : decode prog_10_method_81_code 58 = .ok (.iconst 1, 1) := dd_M_entry_42.2.2.2.2.2.2.2.2.2.1
theorem d_M_entry_59 : decode prog_10_method_81_code 59 = .ok (.goto 4, 3) := dd_M_entry_42.2.2.2.2.2.2.2.2.2.2.1
theorem d_M_entry_62 : decode prog_10_method_81_code 62 = .ok (.iconst 0, 1) := dd_M_entry_42.2.2.2.2.2.2.2.2.2.2.2.1
theorem d_M_entry_63 : decode prog_10_method_81_code 63 = .ok (.istore 7, 2) := dd_M_entry_42.2.2.2.2.2.2.2.2.2.2.2.2.1
theorem d_M_entry_65 : decode prog_10_method_81_code 65 = .ok (.iload 7, 2) := dd_M_entry_42.2.2.2.2.2.2.2.2.2.2.2.2.2.1
theorem d_M_entry_67 : decode prog_10_method_81_code 67 = .ok (.ifCond .eq 15, 3) := dd_M_entry_42.2.2.2.2.2.2.2.2.2.2.2.2.2.2.1
theorem d_M_entry_70 : decode prog_10_method_81_code 70 = .ok (.iload 4, 2) := dd_M_entry_42.2.2.2.2.2.2.2.2.2.2.2.2.2.2.2.1
theorem d_M_entry_72 : decode prog_10_method_81_code 72 = .ok (.bipush (-4), 2) := dd_M_entry_42.2.2.2.2.2.2.2.2.2.2.2.2.2.2.2.2.1
theorem d_M_entry_74 : decode prog_10_method_81_code 74 = .ok (.if_icmp .ne 8, 3) := dd_M_entry_42.2.2.2.2.2.2.2.2.2.2.2.2.2.2.2.2.2.1
theorem d_M_entry_77 : decode prog_10_method_81_code 77 = .ok (.iload 6, 2) := dd_M_entry_42.2.2.2.2.2.2.2.2.2.2.2.2.2.2.2.2.2.2.1
theorem d_M_entry_79 : decode prog_10_method_81_code 79 = .ok (.goto 5, 3) := dd_M_entry_42.2.2.2.2.2.2.2.2.2.2.2.2.2.2.2.2.2.2.2.1
theorem d_M_entry_82 : decode prog_10_method_81_code 82 = .ok (.iload 4, 2) := dd_M_entry_42.2.2.2.2.2.2.2.2.2.2.2.2.2.2.2.2.2.2.2.2.1
theorem d_M_entry_84 : decode prog_10_method_81_code 84 = .ok (.istore 4, 2) := dd_M_entry_42.2.2.2.2.2.2.2.2.2.2.2.2.2.2.2.2.2.2.2.2.2.1
theorem d_M_entry_86 : decode prog_10_method_81_code 86 = .ok (.iload 7, 2) := dd_M_entry_42.2.2.2.2.2.2.2.2.2.2.2.2.2.2.2.2.2.2.2.2.2.2.1
theorem d_M_entry_88 : decode prog_10_method_81_code 88 = .ok (.ifCond .eq 8, 3) := dd_M_entry_42.2.2.2.2.2.2.2.2.2.2.2.2.2.2.2.2.2.2.2.2.2.2.2
set_option maxRecDepth 100000 in
theorem dd_M_entry_91 : (decode prog_10_method_81_code 91 = .ok (.iload 6, 2)) ∧ (decode prog_10_method_81_code 93 = .ok (.goto 5, 3)) ∧ (decode prog_10_method_81_code 96 = .ok (.iload 5, 2)) ∧ (decode prog_10_method_81_code 98 = .ok (.istore 5, 2)) ∧ (decode prog_10_method_81_code 100 = .ok (.iinc 6 1, 3)) ∧ (decode prog_10_method_81_code 103 = .ok (.goto (-64), 3)) ∧ (decode prog_10_method_81_code 106 = .ok (.iload_n 3, 1)) ∧ (decode prog_10_method_81_code 107 = .ok (.ifCond .ne 8, 3)) ∧ (decode prog_10_method_81_code 110 = .ok (.iload 4, 2)) ∧ (decode prog_10_method_81_code 112 = .ok (.goto 5, 3)) ∧ (decode prog_10_method_81_code 115 = .ok (.iload 5, 2)) ∧ (decode prog_10_method_81_code 117 = .ok (.ireturn, 1)) := by
  have h : List.drop 91 prog_10_method_81_code.data.toList = 0x15 :: _ := rfl
  refine ⟨zq_k_u1 21 (fun z => .iload z) 6 h rfl (zq_o_21 _) (by decide +kernel), ?_⟩
  replace h := zq_nx2 (q := 93) h rfl
  refine ⟨zq_k_s2 167 (fun z => .goto z) 5 h rfl (zq_o_167 _) (by decide +kernel), ?_⟩
  replace h := zq_nx3 (q := 96) h rfl
  refine ⟨zq_k_u1 21 (fun z => .iload z) 5 h rfl (zq_o_21 _) (by decide +kernel), ?_⟩
  replace h := zq_nx2 (q := 98) h rfl
  refine ⟨zq_k_u1 54 (fun z => .istore z) 5 h rfl (zq_o_54 _) (by decide +kernel), ?_⟩
  replace h := zq_nx2 (q := 100) h rfl
  refine ⟨zq_k_iinc 6 1 h rfl (zq_o_132 _) (by decide +kernel) (by decide +kernel), ?_⟩
  replace h := zq_nx3 (q := 103) h rfl
  refine ⟨zq_k_s2 167 (fun z => .goto z) (-64) h rfl (zq_o_167 _) (by decide +kernel), ?_⟩
  replace h := zq_nx3 (q := 106) h rfl
  refine ⟨zq_k_n 29 h rfl (zq_o_29 _), ?_⟩
  replace h := zq_nx1 (q := 107) h rfl
  refine ⟨zq_k_s2 154 (fun z => .ifCond .ne z) 8 h rfl (zq_o_154 _) (by decide +kernel), ?_⟩
  replace h := zq_nx3 (q := 110) h rfl
  refine ⟨zq_k_u1 21 (fun z => .iload z) 4 h rfl (zq_o_21 _) (by decide +kernel), ?_⟩
  replace h := zq_nx2 (q := 112) h rfl
  refine ⟨zq_k_s2 167 (fun z => .goto z) 5 h rfl (zq_o_167 _) (by decide +kernel), ?_⟩
  replace h := zq_nx3 (q := 115) h rfl
  refine ⟨zq_k_u1 21 (fun z => .iload z) 5 h rfl (zq_o_21 _) (by decide +kernel), ?_⟩
  replace h := zq_nx2 (q := 117) h rfl
  exact zq_k_n 172 h rfl (zq_o_172 _)
theorem d_M_entry_91 : decode prog_10_method_81_code 91 = .ok (.iload 6, 2) := dd_M_entry_91.1
theorem d_M_entry_93 : decode prog_10_method_81_code 93 = .ok (.goto 5, 3) := dd_M_entry_91.2.1
theorem d_M_entry_96 : decode prog_10_method_81_code 96 = .ok (.iload 5, 2) := dd_M_entry_91.2.2.1
theorem d_M_entry_98 : decode prog_10_method_81_code 98 = .ok (.istore 5, 2) := dd_M_entry_91.2.2.2.1
theorem d_M_entry_100 : decode prog_10_method_81_code 100 = .ok (.iinc 6 1, 3) := dd_M_entry_91.2.2.2.2.1
theorem d_M_entry_103 : decode prog_10_method_81_code 103 = .ok (.goto (-64), 3) := dd_M_entry_91.2.2.2.2.2.1
theorem d_M_entry_106 : decode prog_10_method_81_code 106 = .ok (.iload_n 3, 1) := dd_M_entry_91.2.2.2.2.2.2.1
theorem d_M_entry_107 : decode prog_10_method_81_code 107 = .ok (.ifCond .ne 8, 3) := dd_M_entry_91.2.2.2.2.2.2.2.1
theorem d_M_entry_110 : decode prog_10_method_81_code 110 = .ok (.iload 4, 2) := dd_M_entry_91.2.2.2.2.2.2.2.2.1
theorem d_M_entry_112 : decode prog_10_method_81_code 112 = .ok (.goto 5, 3) := dd_M_entry_91.2.2.2.2.2.2.2.2.2.1
theorem d_M_entry_115 : decode prog_10_method_81_code 115 = .ok (.iload 5, 2) := dd_M_entry_91.2.2.2.2.2.2.2.2.2.2.1
theorem d_M_entry_117 : decode prog_10_method_81_code 117 = .ok (.ireturn, 1) := dd_M_entry_91.2.2.2.2.2.2.2.2.2.2.2
def f_M_entry_98 (rec39 : Nat → Int32 → Int32 → Int32 → Int32 → Int32 → Int32 → mH → Option (Int32 × mH)) (b0 : Nat) (b1 : Int32) (b2 : Int32) (b3 : Int32) (b4 : Int32) (b6 : Int32) (s0 : Int32) (h : mH) : Option (Int32 × mH) :=
  rec39 b0 b1 b2 b3 b4 s0 (b6 + (1 : Int32)) h
set_option maxRecDepth 20000 in
theorem t_M_entry_98 {sc : Nat × (Nat → Int32)} (rec39 : Nat → Int32 → Int32 → Int32 → Int32 → Int32 → Int32 → mH → Option (Int32 × mH)) (hrec39 : ∀ (b0 : Nat) (b1 : Int32) (b2 : Int32) (b3 : Int32) (b4 : Int32) (b5 : Int32) (b6 : Int32) (h : mH) (r : Int32) (h' : mH), rec39 b0 b1 b2 b3 b4 b5 b6 h = some (r, h') → G sc y_M_entry prog_10_method_81_code 8 (some .int) 3 81 39 [(0, .ref b0), (1, .int b1), (2, .int b2), (3, .int b3), (4, .int b4), (5, .int b5), (6, .int b6)] [] h (some (.int r)) h') (b0 : Nat) (b1 : Int32) (b2 : Int32) (b3 : Int32) (b4 : Int32) (b6 : Int32) (s0 : Int32) (h : mH) (r : Int32) (h' : mH) (hf : f_M_entry_98 rec39 b0 b1 b2 b3 b4 b6 s0 h = some (r, h')) : G sc y_M_entry prog_10_method_81_code 8 (some .int) 3 81 98 [(0, .ref b0), (1, .int b1), (2, .int b2), (3, .int b3), (4, .int b4), (6, .int b6)] [.int s0] h (some (.int r)) h' := by
  unfold f_M_entry_98 at hf
  refine g_istore (pc := 98) [(5, .int s0), (0, .ref b0), (1, .int b1), (2, .int b2), (3, .int b3), (4, .int b4), (6, .int b6)] d_M_entry_98 (Nat.le_of_ble_eq_true rfl) rfl ?_
  refine g_iinc (pc := 100) 6 (b6 + (1 : Int32)) [(6, .int (b6 + (1 : Int32))), (5, .int s0), (0, .ref b0), (1, .int b1), (2, .int b2), (3, .int b3), (4, .int b4)] d_M_entry_100 rfl rfl (Nat.le_of_ble_eq_true rfl) rfl ?_
  refine g_goto (pc := 103) 39 d_M_entry_103 (by decide) ?_
  refine g_lv [2, 3, 4, 5, 6, 1, 0] rfl ?_
  exact hrec39 _ _ _ _ _ _ _ _ _ _  hf
def f_M_entry_84 (rec39 : Nat → Int32 → Int32 → Int32 → Int32 → Int32 → Int32 → mH → Option (Int32 × mH)) (b0 : Nat) (b1 : Int32) (b2 : Int32) (b3 : Int32) (b5 : Int32) (b6 : Int32) (b7 : Int32) (s0 : Int32) (h : mH) : Option (Int32 × mH) :=
  if b7 = 0 then
    f_M_entry_98 rec39 b0 b1 b2 b3 s0 b6 b5 h
  else
    f_M_entry_98 rec39 b0 b1 b2 b3 s0 b6 b6 h
set_option maxRecDepth 20000 in
theorem t_M_entry_84 {sc : Nat × (Nat → Int32)} (rec39 : Nat → Int32 → Int32 → Int32 → Int32 → Int32 → Int32 → mH → Option (Int32 × mH)) (hrec39 : ∀ (b0 : Nat) (b1 : Int32) (b2 : Int32) (b3 : Int32) (b4 : Int32) (b5 : Int32) (b6 : Int32) (h : mH) (r : Int32) (h' : mH), rec39 b0 b1 b2 b3 b4 b5 b6 h = some (r, h') → G sc y_M_entry prog_10_method_81_code 8 (some .int) 3 81 39 [(0, .ref b0), (1, .int b1), (2, .int b2), (3, .int b3), (4, .int b4), (5, .int b5), (6, .int b6)] [] h (some (.int r)) h') (b0 : Nat) (b1 : Int32) (b2 : Int32) (b3 : Int32) (b5 : Int32) (b6 : Int32) (b7 : Int32) (s0 : Int32) (h : mH) (r : Int32) (h' : mH) (hf : f_M_entry_84 rec39 b0 b1 b2 b3 b5 b6 b7 s0 h = some (r, h')) : G sc y_M_entry prog_10_method_81_code 8 (some .int) 3 81 84 [(0, .ref b0), (1, .int b1), (2, .int b2), (3, .int b3), (5, .int b5), (6, .int b6), (7, .int b7)] [.int s0] h (some (.int r)) h' := by
  unfold f_M_entry_84 at hf
  refine g_istore (pc := 84) [(4, .int s0), (0, .ref b0), (1, .int b1), (2, .int b2), (3, .int b3), (5, .int b5), (6, .int b6), (7, .int b7)] d_M_entry_84 (Nat.le_of_ble_eq_true rfl) rfl ?_
  refine g_iload (pc := 86) 7 d_M_entry_86 rfl ?_
  refine g_ifeq (pc := 88) 96 d_M_entry_88 (by decide) (fun c27 => ?_) (fun c27 => ?_)
  · replace hf := (if_pos c27).symm.trans hf
    refine g_iload (pc := 96) 5 d_M_entry_96 rfl ?_
    refine g_lv [1, 2, 3, 4, 0, 6] rfl ?_
    exact t_M_entry_98 rec39 hrec39 _ _ _ _ _ _ _ _ _ _  hf
  · replace hf := (if_neg c27).symm.trans hf
    refine g_iload (pc := 91) 6 d_M_entry_91 rfl ?_
    refine g_goto (pc := 93) 98 d_M_entry_93 (by decide) ?_
    refine g_lv [1, 2, 3, 4, 0, 6] rfl ?_
    exact t_M_entry_98 rec39 hrec39 _ _ _ _ _ _ _ _ _ _  hf
def f_M_entry_82 (rec39 : Nat → Int32 → Int32 → Int32 → Int32 → Int32 → Int32 → mH → Option (Int32 × mH)) (b0 : Nat) (b1 : Int32) (b2 : Int32) (b3 : Int32) (b4 : Int32) (b5 : Int32) (b6 : Int32) (b7 : Int32) (h : mH) : Option (Int32 × mH) :=
  f_M_entry_84 rec39 b0 b1 b2 b3 b5 b6 b7 b4 h
set_option maxRecDepth 20000 in
theorem t_M_entry_82 {sc : Nat × (Nat → Int32)} (rec39 : Nat → Int32 → Int32 → Int32 → Int32 → Int32 → Int32 → mH → Option (Int32 × mH)) (hrec39 : ∀ (b0 : Nat) (b1 : Int32) (b2 : Int32) (b3 : Int32) (b4 : Int32) (b5 : Int32) (b6 : Int32) (h : mH) (r : Int32) (h' : mH), rec39 b0 b1 b2 b3 b4 b5 b6 h = some (r, h') → G sc y_M_entry prog_10_method_81_code 8 (some .int) 3 81 39 [(0, .ref b0), (1, .int b1), (2, .int b2), (3, .int b3), (4, .int b4), (5, .int b5), (6, .int b6)] [] h (some (.int r)) h') (b0 : Nat) (b1 : Int32) (b2 : Int32) (b3 : Int32) (b4 : Int32) (b5 : Int32) (b6 : Int32) (b7 : Int32) (h : mH) (r : Int32) (h' : mH) (hf : f_M_entry_82 rec39 b0 b1 b2 b3 b4 b5 b6 b7 h = some (r, h')) : G sc y_M_entry prog_10_method_81_code 8 (some .int) 3 81 82 [(0, .ref b0), (1, .int b1), (2, .int b2), (3, .int b3), (4, .int b4), (5, .int b5), (6, .int b6), (7, .int b7)] [] h (some (.int r)) h' := by
  unfold f_M_entry_82 at hf
  refine g_iload (pc := 82) 4 d_M_entry_82 rfl ?_
  refine g_lv [0, 1, 2, 3, 5, 6, 7] rfl ?_
  exact t_M_entry_84 rec39 hrec39 _ _ _ _ _ _ _ _ _ _ _  hf
def f_M_entry_63 (rec39 : Nat → Int32 → Int32 → Int32 → Int32 → Int32 → Int32 → mH → Option (Int32 × mH)) (b0 : Nat) (b1 : Int32) (b2 : Int32) (b3 : Int32) (b4 : Int32) (b5 : Int32) (b6 : Int32) (s0 : Int32) (h : mH) : Option (Int32 × mH) :=
  if s0 = 0 then
    f_M_entry_82 rec39 b0 b1 b2 b3 b4 b5 b6 s0 h
  else
    if b4 = ((-4) : Int32) then
      f_M_entry_84 rec39 b0 b1 b2 b3 b5 b6 s0 b6 h
    else
      f_M_entry_82 rec39 b0 b1 b2 b3 b4 b5 b6 s0 h
set_option maxRecDepth 20000 in
theorem t_M_entry_63 {sc : Nat × (Nat → Int32)} (rec39 : Nat → Int32 → Int32 → Int32 → Int32 → Int32 → Int32 → mH → Option (Int32 × mH)) (hrec39 : ∀ (b0 : Nat) (b1 : Int32) (b2 : Int32) (b3 : Int32) (b4 : Int32) (b5 : Int32) (b6 : Int32) (h : mH) (r : Int32) (h' : mH), rec39 b0 b1 b2 b3 b4 b5 b6 h = some (r, h') → G sc y_M_entry prog_10_method_81_code 8 (some .int) 3 81 39 [(0, .ref b0), (1, .int b1), (2, .int b2), (3, .int b3), (4, .int b4), (5, .int b5), (6, .int b6)] [] h (some (.int r)) h') (b0 : Nat) (b1 : Int32) (b2 : Int32) (b3 : Int32) (b4 : Int32) (b5 : Int32) (b6 : Int32) (s0 : Int32) (h : mH) (r : Int32) (h' : mH) (hf : f_M_entry_63 rec39 b0 b1 b2 b3 b4 b5 b6 s0 h = some (r, h')) : G sc y_M_entry prog_10_method_81_code 8 (some .int) 3 81 63 [(0, .ref b0), (1, .int b1), (2, .int b2), (3, .int b3), (4, .int b4), (5, .int b5), (6, .int b6)] [.int s0] h (some (.int r)) h' := by
  unfold f_M_entry_63 at hf
  refine g_istore (pc := 63) [(7, .int s0), (0, .ref b0), (1, .int b1), (2, .int b2), (3, .int b3), (4, .int b4), (5, .int b5), (6, .int b6)] d_M_entry_63 (Nat.le_of_ble_eq_true rfl) rfl ?_
  refine g_iload (pc := 65) 0 d_M_entry_65 rfl ?_
  refine g_ifeq (pc := 67) 82 d_M_entry_67 (by decide) (fun c26 => ?_) (fun c26 => ?_)
  · replace hf := (if_pos c26).symm.trans hf
    refine g_lv [1, 2, 3, 4, 5, 6, 7, 0] rfl ?_
    exact t_M_entry_82 rec39 hrec39 _ _ _ _ _ _ _ _ _ _ _  hf
  · replace hf := (if_neg c26).symm.trans hf
    refine g_iload (pc := 70) 5 d_M_entry_70 rfl ?_
    refine g_bipush (pc := 72) ((-4) : Int32) d_M_entry_72 (by decide) ?_
    refine g_icmpne (pc := 74) 82 d_M_entry_74 (by decide) (fun c25 => ?_) (fun c25 => ?_)
    · replace hf := (if_neg c25).symm.trans hf
      refine g_lv [1, 2, 3, 4, 5, 6, 7, 0] rfl ?_
      exact t_M_entry_82 rec39 hrec39 _ _ _ _ _ _ _ _ _ _ _  hf
    · replace hf := (if_pos c25).symm.trans hf
      refine g_iload (pc := 77) 7 d_M_entry_77 rfl ?_
      refine g_goto (pc := 79) 84 d_M_entry_79 (by decide) ?_
      refine g_lv [1, 2, 3, 4, 6, 7, 0] rfl ?_
      exact t_M_entry_84 rec39 hrec39 _ _ _ _ _ _ _ _ _ _ _  hf
def f_M_entry_39b (rec39 : Nat → Int32 → Int32 → Int32 → Int32 → Int32 → Int32 → mH → Option (Int32 × mH)) (b0 : Nat) (b1 : Int32) (b2 : Int32) (b3 : Int32) (b4 : Int32) (b5 : Int32) (b6 : Int32) (h : mH) : Option (Int32 × mH) :=
  if (3 : Int32) < b6 then
    if b3 = 0 then
      some (b4, h)
    else
      some (b5, h)
  else
    bd1 (kC h b0 8) fun _ =>
    bd2 (f_M_tablesBy b0 b1 b2 b6 h) fun x22 h20 =>
    if (lg_cmp x22 (0 : Int64)) ≤ 0 then
      f_M_entry_63 rec39 b0 b1 b2 b3 b4 b5 b6 (0 : Int32) h20
    else
      f_M_entry_63 rec39 b0 b1 b2 b3 b4 b5 b6 (1 : Int32) h20
set_option maxRecDepth 20000 in
theorem t_M_entry_39b {sc : Nat × (Nat → Int32)} (rec39 : Nat → Int32 → Int32 → Int32 → Int32 → Int32 → Int32 → mH → Option (Int32 × mH)) (hrec39 : ∀ (b0 : Nat) (b1 : Int32) (b2 : Int32) (b3 : Int32) (b4 : Int32) (b5 : Int32) (b6 : Int32) (h : mH) (r : Int32) (h' : mH), rec39 b0 b1 b2 b3 b4 b5 b6 h = some (r, h') → G sc y_M_entry prog_10_method_81_code 8 (some .int) 3 81 39 [(0, .ref b0), (1, .int b1), (2, .int b2), (3, .int b3), (4, .int b4), (5, .int b5), (6, .int b6)] [] h (some (.int r)) h') (b0 : Nat) (b1 : Int32) (b2 : Int32) (b3 : Int32) (b4 : Int32) (b5 : Int32) (b6 : Int32) (h : mH) (r : Int32) (h' : mH) (hf : f_M_entry_39b rec39 b0 b1 b2 b3 b4 b5 b6 h = some (r, h')) : G sc y_M_entry prog_10_method_81_code 8 (some .int) 3 81 39 [(0, .ref b0), (1, .int b1), (2, .int b2), (3, .int b3), (4, .int b4), (5, .int b5), (6, .int b6)] [] h (some (.int r)) h' := by
  unfold f_M_entry_39b at hf
  refine g_iload (pc := 39) 6 d_M_entry_39 rfl ?_
  refine g_iconst (pc := 41) (3 : Int32) d_M_entry_41 (by decide) ?_
  refine g_icmpgt (pc := 42) 106 d_M_entry_42 (by decide) (fun c24 => ?_) (fun c24 => ?_)
  · replace hf := (if_pos c24).symm.trans hf
    refine g_iload_n (pc := 106) 3 d_M_entry_106 rfl rfl ?_
    refine g_ifne (pc := 107) 115 d_M_entry_107 (by decide) (fun c17 => ?_) (fun c17 => ?_)
    · replace hf := (if_neg c17).symm.trans hf
      refine g_iload (pc := 115) 5 d_M_entry_115 rfl ?_
      obtain ⟨rfl, rfl⟩ := ret2 hf
      exact g_iret (pc := 117) rfl d_M_entry_117
    · replace hf := (if_pos c17).symm.trans hf
      refine g_iload (pc := 110) 4 d_M_entry_110 rfl ?_
      refine g_goto (pc := 112) 117 d_M_entry_112 (by decide) ?_
      obtain ⟨rfl, rfl⟩ := ret2 hf
      exact g_iret (pc := 117) rfl d_M_entry_117
  · replace hf := (if_neg c24).symm.trans hf
    refine g_aload_n (pc := 45) 0 d_M_entry_45 rfl rfl ?_
    refine g_iload_n (pc := 46) 1 d_M_entry_46 rfl rfl ?_
    refine g_iload_n (pc := 47) 2 d_M_entry_47 rfl rfl ?_
    refine g_iload (pc := 48) 6 d_M_entry_48 rfl ?_
    obtain ⟨u19, e18, hf⟩ := bd1_e hf
    obtain ⟨x22, h20, e21, hf⟩ := bd2_e hf
    refine g_callV (pc := 50) (ci := 8) [.int b1, .int b2, .int b6] (site_of si_M_tablesBy (by decide) (by decide)) wd_1341 wd_1343 wp_67 d_M_entry_50 rfl e18 (Nat.le_of_ble_eq_true rfl) (fun z => absurd z (by decide)) (fun z => absurd z (by decide)) (fun z => absurd z (by decide)) (c_M_tablesBy e21) rfl ?_
    refine g_st [.long x22] rfl ?_
    refine g_lconst (pc := 53) (0 : Int64) d_M_entry_53 (by decide) ?_
    refine g_lcmp (pc := 54) d_M_entry_54 ?_
    refine g_ifle (pc := 55) 62 d_M_entry_55 (by decide) (fun c23 => ?_) (fun c23 => ?_)
    · replace hf := (if_pos c23).symm.trans hf
      refine g_iconst (pc := 62) (0 : Int32) d_M_entry_62 (by decide) ?_
      refine g_lv [0, 1, 2, 3, 4, 5, 6] rfl ?_
      exact t_M_entry_63 rec39 hrec39 _ _ _ _ _ _ _ _ _ _ _  hf
    · replace hf := (if_neg c23).symm.trans hf
      refine g_iconst (pc := 58) (1 : Int32) d_M_entry_58 (by decide) ?_
      refine g_goto (pc := 59) 63 d_M_entry_59 (by decide) ?_
      refine g_lv [0, 1, 2, 3, 4, 5, 6] rfl ?_
      exact t_M_entry_63 rec39 hrec39 _ _ _ _ _ _ _ _ _ _ _  hf
def f_M_entry_39  : Nat → Nat → Int32 → Int32 → Int32 → Int32 → Int32 → Int32 → mH → Option (Int32 × mH)
  | 0 => fun _ _ _ _ _ _ _ _ => none
  | n + 1 => f_M_entry_39b  (f_M_entry_39  n)
theorem t_M_entry_39 {sc : Nat × (Nat → Int32)}  : ∀ (n : Nat) (b0 : Nat) (b1 : Int32) (b2 : Int32) (b3 : Int32) (b4 : Int32) (b5 : Int32) (b6 : Int32) (h : mH) (r : Int32) (h' : mH) (hf : f_M_entry_39  n b0 b1 b2 b3 b4 b5 b6 h = some (r, h')), G sc y_M_entry prog_10_method_81_code 8 (some .int) 3 81 39 [(0, .ref b0), (1, .int b1), (2, .int b2), (3, .int b3), (4, .int b4), (5, .int b5), (6, .int b6)] [] h (some (.int r)) h'
  | 0, _, _, _, _, _, _, _, _, _, _, hf => by cases hf
  | n + 1, _, _, _, _, _, _, _, _, _, _, hf => t_M_entry_39b  (f_M_entry_39  n) (t_M_entry_39  n) _ _ _ _ _ _ _ _ _ _ hf
def f_M_entry_26   (h : mH) : Option (Int32 × mH) :=
  some (((-1) : Int32), h)
set_option maxRecDepth 20000 in
theorem t_M_entry_26 {sc : Nat × (Nat → Int32)}   (h : mH) (r : Int32) (h' : mH) (hf : f_M_entry_26   h = some (r, h')) : G sc y_M_entry prog_10_method_81_code 8 (some .int) 3 81 26 [] [] h (some (.int r)) h' := by
  unfold f_M_entry_26 at hf
  refine g_iconst (pc := 26) ((-1) : Int32) d_M_entry_26 (by decide) ?_
  obtain ⟨rfl, rfl⟩ := ret2 hf
  exact g_iret (pc := 27) rfl d_M_entry_27
def f_M_entry_0  (a0 : Nat) (a1 : Int32) (a2 : Int32) (a3 : Int32) (h : mH) : Option (Int32 × mH) :=
  bd1 (kC h a0 8) fun _ =>
  bd2 (f_M_isOne a0 a1 h) fun x5 h3 =>
  if x5 = 0 then
    f_M_entry_26  h3
  else
    bd1 (kC h3 a0 8) fun _ =>
    bd2 (f_M_isLaw a0 a2 h3) fun x10 h8 =>
    if x10 = 0 then
      f_M_entry_26  h8
    else
      bd2 (f_M_in a3.toInt64 (0 : Int64) (1 : Int64) h8) fun x13 h11 =>
      if x13 = 0 then
        f_M_entry_26  h11
      else
        f_M_entry_39  FU a0 a1 a2 a3 ((-4) : Int32) ((-4) : Int32) (0 : Int32) h11
set_option maxRecDepth 20000 in
theorem t_M_entry_0 {sc : Nat × (Nat → Int32)}  (a0 : Nat) (a1 : Int32) (a2 : Int32) (a3 : Int32) (h : mH) (r : Int32) (h' : mH) (hf : f_M_entry_0  a0 a1 a2 a3 h = some (r, h')) : G sc y_M_entry prog_10_method_81_code 8 (some .int) 3 81 0 [(0, .ref a0), (1, .int a1), (2, .int a2), (3, .int a3)] [] h (some (.int r)) h' := by
  unfold f_M_entry_0 at hf
  refine g_aload_n (pc := 0) 0 d_M_entry_0 rfl rfl ?_
  refine g_iload_n (pc := 1) 1 d_M_entry_1 rfl rfl ?_
  obtain ⟨u2, e1, hf⟩ := bd1_e hf
  obtain ⟨x5, h3, e4, hf⟩ := bd2_e hf
  refine g_callV (pc := 2) (ci := 8) [.int a1] (site_of si_M_isOne (by decide) (by decide)) wd_1160 wd_1162 wp_49 d_M_entry_2 rfl e1 (Nat.le_of_ble_eq_true rfl) (fun z => absurd z (by decide)) (fun z => absurd z (by decide)) (fun z => absurd z (by decide)) (c_M_isOne e4) rfl ?_
  refine g_st [.int x5] rfl ?_
  refine g_ifeq (pc := 5) 26 d_M_entry_5 (by decide) (fun c16 => ?_) (fun c16 => ?_)
  · replace hf := (if_pos c16).symm.trans hf
    refine g_lv [] rfl ?_
    exact t_M_entry_26  _ _ _  hf
  · replace hf := (if_neg c16).symm.trans hf
    refine g_aload_n (pc := 8) 0 d_M_entry_8 rfl rfl ?_
    refine g_iload_n (pc := 9) 2 d_M_entry_9 rfl rfl ?_
    obtain ⟨u7, e6, hf⟩ := bd1_e hf
    obtain ⟨x10, h8, e9, hf⟩ := bd2_e hf
    refine g_callV (pc := 10) (ci := 8) [.int a2] (site_of si_M_isLaw (by decide) (by decide)) wd_1136 wd_1138 wp_44 d_M_entry_10 rfl e6 (Nat.le_of_ble_eq_true rfl) (fun z => absurd z (by decide)) (fun z => absurd z (by decide)) (fun z => absurd z (by decide)) (c_M_isLaw e9) rfl ?_
    refine g_st [.int x10] rfl ?_
    refine g_ifeq (pc := 13) 26 d_M_entry_13 (by decide) (fun c15 => ?_) (fun c15 => ?_)
    · replace hf := (if_pos c15).symm.trans hf
      refine g_lv [] rfl ?_
      exact t_M_entry_26  _ _ _  hf
    · replace hf := (if_neg c15).symm.trans hf
      refine g_iload_n (pc := 16) 3 d_M_entry_16 rfl rfl ?_
      refine g_i2l (pc := 17) d_M_entry_17 ?_
      refine g_lconst (pc := 18) (0 : Int64) d_M_entry_18 (by decide) ?_
      refine g_lconst (pc := 19) (1 : Int64) d_M_entry_19 (by decide) ?_
      obtain ⟨x13, h11, e12, hf⟩ := bd2_e hf
      refine g_callS (pc := 20) [.long a3.toInt64, .long (0 : Int64), .long (1 : Int64)] (site_of si_M_in (by decide) (by decide)) wd_1061 wd_1062 d_M_entry_20 (Nat.le_of_ble_eq_true rfl) (fun z => absurd z (by decide)) (fun z => absurd z (by decide)) (fun z => absurd z (by decide)) (c_M_in e12) rfl ?_
      refine g_st [.int x13] rfl ?_
      refine g_ifne (pc := 23) 28 d_M_entry_23 (by decide) (fun c14 => ?_) (fun c14 => ?_)
      · replace hf := (if_neg c14).symm.trans hf
        refine g_bipush (pc := 28) ((-4) : Int32) d_M_entry_28 (by decide) ?_
        refine g_istore (pc := 30) [(4, .int ((-4) : Int32)), (0, .ref a0), (1, .int a1), (2, .int a2), (3, .int a3)] d_M_entry_30 (Nat.le_of_ble_eq_true rfl) rfl ?_
        refine g_bipush (pc := 32) ((-4) : Int32) d_M_entry_32 (by decide) ?_
        refine g_istore (pc := 34) [(5, .int ((-4) : Int32)), (4, .int ((-4) : Int32)), (0, .ref a0), (1, .int a1), (2, .int a2), (3, .int a3)] d_M_entry_34 (Nat.le_of_ble_eq_true rfl) rfl ?_
        refine g_iconst (pc := 36) (0 : Int32) d_M_entry_36 (by decide) ?_
        refine g_istore (pc := 37) [(6, .int (0 : Int32)), (5, .int ((-4) : Int32)), (4, .int ((-4) : Int32)), (0, .ref a0), (1, .int a1), (2, .int a2), (3, .int a3)] d_M_entry_37 (Nat.le_of_ble_eq_true rfl) rfl ?_
        refine g_lv [3, 4, 5, 6, 2, 1, 0] rfl ?_
        exact t_M_entry_39  FU _ _ _ _ _ _ _ _ _ _  hf
      · replace hf := (if_pos c14).symm.trans hf
        refine g_lv [] rfl ?_
        exact t_M_entry_26  _ _ _  hf
def f_M_entry (a0 : Nat) (a1 : Int32) (a2 : Int32) (a3 : Int32) (h : mH) : Option (Int32 × mH) := f_M_entry_0 a0 a1 a2 a3 h
theorem c_M_entry {sc : Nat × (Nat → Int32)} {a0 : Nat} {a1 : Int32} {a2 : Int32} {a3 : Int32} {h : mH} {r : Int32} {h' : mH} (hf : f_M_entry a0 a1 a2 a3 h = some (r, h')) : MM sc y_M_entry prog_10_method_81_code 8 (some .int) 3 81 [.ref a0, .int a1, .int a2, .int a3] h (some (.int r)) h' :=
  mm_of_G (by decide) (Nat.le_of_ble_eq_true rfl) (t_M_entry_0 _ _ _ _ _ _ _ hf)
/-! M wild (III)I -/
set_option maxRecDepth 100000 in
theorem dd_M_wild_0 : (decode prog_10_method_82_code 0 = .ok (.iload_n 2, 1)) ∧ (decode prog_10_method_82_code 1 = .ok (.i2l, 1)) ∧ (decode prog_10_method_82_code 2 = .ok (.lconst 1, 1)) ∧ (decode prog_10_method_82_code 3 = .ok (.ldc2_w 319, 3)) ∧ (decode prog_10_method_82_code 6 = .ok (.invokestatic 114, 3)) ∧ (decode prog_10_method_82_code 9 = .ok (.ifCond .eq 13, 3)) ∧ (decode prog_10_method_82_code 12 = .ok (.iload_n 3, 1)) ∧ (decode prog_10_method_82_code 13 = .ok (.i2l, 1)) ∧ (decode prog_10_method_82_code 14 = .ok (.lconst 0, 1)) ∧ (decode prog_10_method_82_code 15 = .ok (.lconst 1, 1)) ∧ (decode prog_10_method_82_code 16 = .ok (.invokestatic 114, 3)) ∧ (decode prog_10_method_82_code 19 = .ok (.ifCond .ne 5, 3)) ∧ (decode prog_10_method_82_code 22 = .ok (.iconst (-1), 1)) ∧ (decode prog_10_method_82_code 23 = .ok (.ireturn, 1)) ∧ (decode prog_10_method_82_code 24 = .ok (.aload_n 0, 1)) ∧ (decode prog_10_method_82_code 25 = .ok (.getfield 109, 3)) ∧ (decode prog_10_method_82_code 28 = .ok (.ifCond .eq 10, 3)) ∧ (decode prog_10_method_82_code 31 = .ok (.aload_n 0, 1)) ∧ (decode prog_10_method_82_code 32 = .ok (.getfield 106, 3)) ∧ (decode prog_10_method_82_code 35 = .ok (.ifCond .ne 6, 3)) ∧ (decode prog_10_method_82_code 38 = .ok (.bipush (-2), 2)) ∧ (decode prog_10_method_82_code 40 = .ok (.ireturn, 1)) ∧ (decode prog_10_method_82_code 41 = .ok (.aload_n 0, 1)) ∧ (decode prog_10_method_82_code 42 = .ok (.invokevirtual 275, 3)) := by
  have h : List.drop 0 prog_10_method_82_code.data.toList = 0x1c :: _ := rfl
  refine ⟨zq_k_n 28 h rfl (zq_o_28 _), ?_⟩
  replace h := zq_nx1 (q := 1) h rfl
  refine ⟨zq_k_n 133 h rfl (zq_o_133 _), ?_⟩
  replace h := zq_nx1 (q := 2) h rfl
  refine ⟨zq_k_n 10 h rfl (zq_o_10 _), ?_⟩
  replace h := zq_nx1 (q := 3) h rfl
  refine ⟨zq_k_u2 20 (fun z => .ldc2_w z) 319 h rfl (zq_o_20 _) (by decide +kernel), ?_⟩
  replace h := zq_nx3 (q := 6) h rfl
  refine ⟨zq_k_u2 184 (fun z => .invokestatic z) 114 h rfl (zq_o_184 _) (by decide +kernel), ?_⟩
  replace h := zq_nx3 (q := 9) h rfl
  refine ⟨zq_k_s2 153 (fun z => .ifCond .eq z) 13 h rfl (zq_o_153 _) (by decide +kernel), ?_⟩
  replace h := zq_nx3 (q := 12) h rfl
  refine ⟨zq_k_n 29 h rfl (zq_o_29 _), ?_⟩
  replace h := zq_nx1 (q := 13) h rfl
  refine ⟨zq_k_n 133 h rfl (zq_o_133 _), ?_⟩
  replace h := zq_nx1 (q := 14) h rfl
  refine ⟨zq_k_n 9 h rfl (zq_o_9 _), ?_⟩
  replace h := zq_nx1 (q := 15) h rfl
  refine ⟨zq_k_n 10 h rfl (zq_o_10 _), ?_⟩
  replace h := zq_nx1 (q := 16) h rfl
  refine ⟨zq_k_u2 184 (fun z => .invokestatic z) 114 h rfl (zq_o_184 _) (by decide +kernel), ?_⟩
  replace h := zq_nx3 (q := 19) h rfl
  refine ⟨zq_k_s2 154 (fun z => .ifCond .ne z) 5 h rfl (zq_o_154 _) (by decide +kernel), ?_⟩
  replace h := zq_nx3 (q := 22) h rfl
  refine ⟨zq_k_n 2 h rfl (zq_o_2 _), ?_⟩
  replace h := zq_nx1 (q := 23) h rfl
  refine ⟨zq_k_n 172 h rfl (zq_o_172 _), ?_⟩
  replace h := zq_nx1 (q := 24) h rfl
  refine ⟨zq_k_n 42 h rfl (zq_o_42 _), ?_⟩
  replace h := zq_nx1 (q := 25) h rfl
  refine ⟨zq_k_u2 180 (fun z => .getfield z) 109 h rfl (zq_o_180 _) (by decide +kernel), ?_⟩
  replace h := zq_nx3 (q := 28) h rfl
  refine ⟨zq_k_s2 153 (fun z => .ifCond .eq z) 10 h rfl (zq_o_153 _) (by decide +kernel), ?_⟩
  replace h := zq_nx3 (q := 31) h rfl
  refine ⟨zq_k_n 42 h rfl (zq_o_42 _), ?_⟩
  replace h := zq_nx1 (q := 32) h rfl
  refine ⟨zq_k_u2 180 (fun z => .getfield z) 106 h rfl (zq_o_180 _) (by decide +kernel), ?_⟩
  replace h := zq_nx3 (q := 35) h rfl
  refine ⟨zq_k_s2 154 (fun z => .ifCond .ne z) 6 h rfl (zq_o_154 _) (by decide +kernel), ?_⟩
  replace h := zq_nx3 (q := 38) h rfl
  refine ⟨zq_k_s1 16 (fun z => .bipush z) (-2) h rfl (zq_o_16 _) (by decide +kernel), ?_⟩
  replace h := zq_nx2 (q := 40) h rfl
  refine ⟨zq_k_n 172 h rfl (zq_o_172 _), ?_⟩
  replace h := zq_nx1 (q := 41) h rfl
  refine ⟨zq_k_n 42 h rfl (zq_o_42 _), ?_⟩
  replace h := zq_nx1 (q := 42) h rfl
  exact zq_k_u2 182 (fun z => .invokevirtual z) 275 h rfl (zq_o_182 _) (by decide +kernel)
theorem d_M_wild_0 : decode prog_10_method_82_code 0 = .ok (.iload_n 2, 1) := dd_M_wild_0.1
theorem d_M_wild_1 : decode prog_10_method_82_code 1 = .ok (.i2l, 1) := dd_M_wild_0.2.1
theorem d_M_wild_2 : decode prog_10_method_82_code 2 = .ok (.lconst 1, 1) := dd_M_wild_0.2.2.1
theorem d_M_wild_3 : decode prog_10_method_82_code 3 = .ok (.ldc2_w 319, 3) := dd_M_wild_0.2.2.2.1
theorem d_M_wild_6 : decode prog_10_method_82_code 6 = .ok (.invokestatic 114, 3) := dd_M_wild_0.2.2.2.2.1
theorem d_M_wild_9 : decode prog_10_method_82_code 9 = .ok (.ifCond .eq 13, 3) := dd_M_wild_0.2.2.2.2.2.1
theorem d_M_wild_12 : decode prog_10_method_82_code 12 = .ok (.iload_n 3, 1) := dd_M_wild_0.2.2.2.2.2.2.1
theorem d_M_wild_13 : decode prog_10_method_82_code 13 = .ok (.i2l, 1) := dd_M_wild_0.2.2.2.2.2.2.2.1
theorem d_M_wild_14 : decode prog_10_method_82_code 14 = .ok (.lconst 0, 1) := dd_M_wild_0.2.2.2.2.2.2.2.2.1
theorem d_M_wild_15 : decode prog_10_method_82_code 15 = .ok (.lconst 1, 1) := dd_M_wild_0.2.2.2.2.2.2.2.2.2.1
theorem d_M_wild_16 : decode prog_10_method_82_code 16 = .ok (.invokestatic 114, 3) := dd_M_wild_0.2.2.2.2.2.2.2.2.2.2.1
theorem d_M_wild_19 : decode prog_10_method_82_code 19 = .ok (.ifCond .ne 5, 3) := dd_M_wild_0.2.2.2.2.2.2.2.2.2.2.2.1
theorem d_M_wild_22 : decode prog_10_method_82_code 22 = .ok (.iconst (-1), 1) := dd_M_wild_0.2.2.2.2.2.2.2.2.2.2.2.2.1
theorem d_M_wild_23 : decode prog_10_method_82_code 23 = .ok (.ireturn, 1) := dd_M_wild_0.2.2.2.2.2.2.2.2.2.2.2.2.2.1
theorem d_M_wild_24 : decode prog_10_method_82_code 24 = .ok (.aload_n 0, 1) := dd_M_wild_0.2.2.2.2.2.2.2.2.2.2.2.2.2.2.1
theorem d_M_wild_25 : decode prog_10_method_82_code 25 = .ok (.getfield 109, 3) := dd_M_wild_0.2.2.2.2.2.2.2.2.2.2.2.2.2.2.2.1
theorem d_M_wild_28 : decode prog_10_method_82_code 28 = .ok (.ifCond .eq 10, 3) := dd_M_wild_0.2.2.2.2.2.2.2.2.2.2.2.2.2.2.2.2.1
theorem d_M_wild_31 : decode prog_10_method_82_code 31 = .ok (.aload_n 0, 1) := dd_M_wild_0.2.2.2.2.2.2.2.2.2.2.2.2.2.2.2.2.2.1
theorem d_M_wild_32 : decode prog_10_method_82_code 32 = .ok (.getfield 106, 3) := dd_M_wild_0.2.2.2.2.2.2.2.2.2.2.2.2.2.2.2.2.2.2.1
theorem d_M_wild_35 : decode prog_10_method_82_code 35 = .ok (.ifCond .ne 6, 3) := dd_M_wild_0.2.2.2.2.2.2.2.2.2.2.2.2.2.2.2.2.2.2.2.1
theorem d_M_wild_38 : decode prog_10_method_82_code 38 = .ok (.bipush (-2), 2) := dd_M_wild_0.2.2.2.2.2.2.2.2.2.2.2.2.2.2.2.2.2.2.2.2.1
theorem d_M_wild_40 : decode prog_10_method_82_code 40 = .ok (.ireturn, 1) := dd_M_wild_0.2.2.2.2.2.2.2.2.2.2.2.2.2.2.2.2.2.2.2.2.2.1
theorem d_M_wild_41 : decode prog_10_method_82_code 41 = .ok (.aload_n 0, 1) := dd_M_wild_0.2.2.2.2.2.2.2.2.2.2.2.2.2.2.2.2.2.2.2.2.2.2.1
theorem d_M_wild_42 : decode prog_10_method_82_code 42 = .ok (.invokevirtual 275, 3) := dd_M_wild_0.2.2.2.2.2.2.2.2.2.2.2.2.2.2.2.2.2.2.2.2.2.2.2
set_option maxRecDepth 100000 in
theorem dd_M_wild_45 : (decode prog_10_method_82_code 45 = .ok (.iload_n 1, 1)) ∧ (decode prog_10_method_82_code 46 = .ok (.istore 4, 2)) ∧ (decode prog_10_method_82_code 48 = .ok (.iconst 0, 1)) ∧ (decode prog_10_method_82_code 49 = .ok (.istore 5, 2)) ∧ (decode prog_10_method_82_code 51 = .ok (.iconst 0, 1)) ∧ (decode prog_10_method_82_code 52 = .ok (.istore 6, 2)) ∧ (decode prog_10_method_82_code 54 = .ok (.iload 6, 2)) ∧ (decode prog_10_method_82_code 56 = .ok (.iload_n 2, 1)) ∧ (decode prog_10_method_82_code 57 = .ok (.if_icmp .ge 85, 3)) ∧ (decode prog_10_method_82_code 60 = .ok (.iload 4, 2)) ∧ (decode prog_10_method_82_code 62 = .ok (.ldc_w 321, 3)) ∧ (decode prog_10_method_82_code 65 = .ok (.imul, 1)) ∧ (decode prog_10_method_82_code 66 = .ok (.sipush 12345, 3)) ∧ (decode prog_10_method_82_code 69 = .ok (.iadd, 1)) ∧ (decode prog_10_method_82_code 70 = .ok (.istore 4, 2)) ∧ (decode prog_10_method_82_code 72 = .ok (.iload 4, 2)) ∧ (decode prog_10_method_82_code 74 = .ok (.bipush 16, 2)) ∧ (decode prog_10_method_82_code 76 = .ok (.ishr, 1)) ∧ (decode prog_10_method_82_code 77 = .ok (.sipush 32767, 3)) ∧ (decode prog_10_method_82_code 80 = .ok (.iand, 1)) ∧ (decode prog_10_method_82_code 81 = .ok (.aload_n 0, 1)) ∧ (decode prog_10_method_82_code 82 = .ok (.getfield 109, 3)) ∧ (decode prog_10_method_82_code 85 = .ok (.irem, 1)) ∧ (decode prog_10_method_82_code 86 = .ok (.istore 7, 2)) := by
  have h : List.drop 45 prog_10_method_82_code.data.toList = 0x1b :: _ := rfl
  refine ⟨zq_k_n 27 h rfl (zq_o_27 _), ?_⟩
  replace h := zq_nx1 (q := 46) h rfl
  refine ⟨zq_k_u1 54 (fun z => .istore z) 4 h rfl (zq_o_54 _) (by decide +kernel), ?_⟩
  replace h := zq_nx2 (q := 48) h rfl
  refine ⟨zq_k_n 3 h rfl (zq_o_3 _), ?_⟩
  replace h := zq_nx1 (q := 49) h rfl
  refine ⟨zq_k_u1 54 (fun z => .istore z) 5 h rfl (zq_o_54 _) (by decide +kernel), ?_⟩
  replace h := zq_nx2 (q := 51) h rfl
  refine ⟨zq_k_n 3 h rfl (zq_o_3 _), ?_⟩
  replace h := zq_nx1 (q := 52) h rfl
  refine ⟨zq_k_u1 54 (fun z => .istore z) 6 h rfl (zq_o_54 _) (by decide +kernel), ?_⟩
  replace h := zq_nx2 (q := 54) h rfl
  refine ⟨zq_k_u1 21 (fun z => .iload z) 6 h rfl (zq_o_21 _) (by decide +kernel), ?_⟩
  replace h := zq_nx2 (q := 56) h rfl
  refine ⟨zq_k_n 28 h rfl (zq_o_28 _), ?_⟩
  replace h := zq_nx1 (q := 57) h rfl
  refine ⟨zq_k_s2 162 (fun z => .if_icmp .ge z) 85 h rfl (zq_o_162 _) (by decide +kernel), ?_⟩
  replace h := zq_nx3 (q := 60) h rfl
  refine ⟨zq_k_u1 21 (fun z => .iload z) 4 h rfl (zq_o_21 _) (by decide +kernel), ?_⟩
  replace h := zq_nx2 (q := 62) h rfl
  refine ⟨zq_k_u2 19 (fun z => .ldc_w z) 321 h rfl (zq_o_19 _) (by decide +kernel), ?_⟩
  replace h := zq_nx3 (q := 65) h rfl
  refine ⟨zq_k_n 104 h rfl (zq_o_104 _), ?_⟩
  replace h := zq_nx1 (q := 66) h rfl
  refine ⟨zq_k_s2 17 (fun z => .sipush z) 12345 h rfl (zq_o_17 _) (by decide +kernel), ?_⟩
  replace h := zq_nx3 (q := 69) h rfl
  refine ⟨zq_k_n 96 h rfl (zq_o_96 _), ?_⟩
  replace h := zq_nx1 (q := 70) h rfl
  refine ⟨zq_k_u1 54 (fun z => .istore z) 4 h rfl (zq_o_54 _) (by decide +kernel), ?_⟩
  replace h := zq_nx2 (q := 72) h rfl
  refine ⟨zq_k_u1 21 (fun z => .iload z) 4 h rfl (zq_o_21 _) (by decide +kernel), ?_⟩
  replace h := zq_nx2 (q := 74) h rfl
  refine ⟨zq_k_s1 16 (fun z => .bipush z) 16 h rfl (zq_o_16 _) (by decide +kernel), ?_⟩
  replace h := zq_nx2 (q := 76) h rfl
  refine ⟨zq_k_n 122 h rfl (zq_o_122 _), ?_⟩
  replace h := zq_nx1 (q := 77) h rfl
  refine ⟨zq_k_s2 17 (fun z => .sipush z) 32767 h rfl (zq_o_17 _) (by decide +kernel), ?_⟩
  replace h := zq_nx3 (q := 80) h rfl
  refine ⟨zq_k_n 126 h rfl (zq_o_126 _), ?_⟩
  replace h := zq_nx1 (q := 81) h rfl
  refine ⟨zq_k_n 42 h rfl (zq_o_42 _), ?_⟩
  replace h := zq_nx1 (q := 82) h rfl
  refine ⟨zq_k_u2 180 (fun z => .getfield z) 109 h rfl (zq_o_180 _) (by decide +kernel), ?_⟩
  replace h := zq_nx3 (q := 85) h rfl
  refine ⟨zq_k_n 112 h rfl (zq_o_112 _), ?_⟩
  replace h := zq_nx1 (q := 86) h rfl
  exact zq_k_u1 54 (fun z => .istore z) 7 h rfl (zq_o_54 _) (by decide +kernel)
theorem d_M_wild_45 : decode prog_10_method_82_code 45 = .ok (.iload_n 1, 1) := dd_M_wild_45.1
theorem d_M_wild_46 : decode prog_10_method_82_code 46 = .ok (.istore 4, 2) := dd_M_wild_45.2.1
theorem d_M_wild_48 : decode prog_10_method_82_code 48 = .ok (.iconst 0, 1) := dd_M_wild_45.2.2.1
theorem d_M_wild_49 : decode prog_10_method_82_code 49 = .ok (.istore 5, 2) := dd_M_wild_45.2.2.2.1
theorem d_M_wild_51 : decode prog_10_method_82_code 51 = .ok (.iconst 0, 1) := dd_M_wild_45.2.2.2.2.1
theorem d_M_wild_52 : decode prog_10_method_82_code 52 = .ok (.istore 6, 2) := dd_M_wild_45.2.2.2.2.2.1
theorem d_M_wild_54 : decode prog_10_method_82_code 54 = .ok (.iload 6, 2) := dd_M_wild_45.2.2.2.2.2.2.1
theorem d_M_wild_56 : decode prog_10_method_82_code 56 = .ok (.iload_n 2, 1) := dd_M_wild_45.2.2.2.2.2.2.2.1
theorem d_M_wild_57 : decode prog_10_method_82_code 57 = .ok (.if_icmp .ge 85, 3) := dd_M_wild_45.2.2.2.2.2.2.2.2.1
theorem d_M_wild_60 : decode prog_10_method_82_code 60 = .ok (.iload 4, 2) := dd_M_wild_45.2.2.2.2.2.2.2.2.2.1
theorem d_M_wild_62 : decode prog_10_method_82_code 62 = .ok (.ldc_w 321, 3) := dd_M_wild_45.2.2.2.2.2.2.2.2.2.2.1
theorem d_M_wild_65 : decode prog_10_method_82_code 65 = .ok (.imul, 1) := dd_M_wild_45.2.2.2.2.2.2.2.2.2.2.2.1
theorem d_M_wild_66 : decode prog_10_method_82_code 66 = .ok (.sipush 12345, 3) := dd_M_wild_45.2.2.2.2.2.2.2.2.2.2.2.2.1
theorem d_M_wild_69 : decode prog_10_method_82_code 69 = .ok (.iadd, 1) := dd_M_wild_45.2.2.2.2.2.2.2.2.2.2.2.2.2.1
theorem d_M_wild_70 : decode prog_10_method_82_code 70 = .ok (.istore 4, 2) := dd_M_wild_45.2.2.2.2.2.2.2.2.2.2.2.2.2.2.1
theorem d_M_wild_72 : decode prog_10_method_82_code 72 = .ok (.iload 4, 2) := dd_M_wild_45.2.2.2.2.2.2.2.2.2.2.2.2.2.2.2.1
theorem d_M_wild_74 : decode prog_10_method_82_code 74 = .ok (.bipush 16, 2) := dd_M_wild_45.2.2.2.2.2.2.2.2.2.2.2.2.2.2.2.2.1
theorem d_M_wild_76 : decode prog_10_method_82_code 76 = .ok (.ishr, 1) := dd_M_wild_45.2.2.2.2.2.2.2.2.2.2.2.2.2.2.2.2.2.1
theorem d_M_wild_77 : decode prog_10_method_82_code 77 = .ok (.sipush 32767, 3) := dd_M_wild_45.2.2.2.2.2.2.2.2.2.2.2.2.2.2.2.2.2.2.1
theorem d_M_wild_80 : decode prog_10_method_82_code 80 = .ok (.iand, 1) := dd_M_wild_45.2.2.2.2.2.2.2.2.2.2.2.2.2.2.2.2.2.2.2.1
theorem d_M_wild_81 : decode prog_10_method_82_code 81 = .ok (.aload_n 0, 1) := dd_M_wild_45.2.2.2.2.2.2.2.2.2.2.2.2.2.2.2.2.2.2.2.2.1
theorem d_M_wild_82 : decode prog_10_method_82_code 82 = .ok (.getfield 109, 3) := dd_M_wild_45.2.2.2.2.2.2.2.2.2.2.2.2.2.2.2.2.2.2.2.2.2.1
theorem d_M_wild_85 : decode prog_10_method_82_code 85 = .ok (.irem, 1) := dd_M_wild_45.2.2.2.2.2.2.2.2.2.2.2.2.2.2.2.2.2.2.2.2.2.2.1
theorem d_M_wild_86 : decode prog_10_method_82_code 86 = .ok (.istore 7, 2) := dd_M_wild_45.2.2.2.2.2.2.2.2.2.2.2.2.2.2.2.2.2.2.2.2.2.2.2
set_option maxRecDepth 100000 in
theorem dd_M_wild_88 : (decode prog_10_method_82_code 88 = .ok (.iload 4, 2)) ∧ (decode prog_10_method_82_code 90 = .ok (.ldc_w 321, 3)) ∧ (decode prog_10_method_82_code 93 = .ok (.imul, 1)) ∧ (decode prog_10_method_82_code 94 = .ok (.sipush 12345, 3)) ∧ (decode prog_10_method_82_code 97 = .ok (.iadd, 1)) ∧ (decode prog_10_method_82_code 98 = .ok (.istore 4, 2)) ∧ (decode prog_10_method_82_code 100 = .ok (.iload 5, 2)) ∧ (decode prog_10_method_82_code 102 = .ok (.aload_n 0, 1)) ∧ (decode prog_10_method_82_code 103 = .ok (.iload 7, 2)) ∧ (decode prog_10_method_82_code 105 = .ok (.iload 4, 2)) ∧ (decode prog_10_method_82_code 107 = .ok (.bipush 16, 2)) ∧ (decode prog_10_method_82_code 109 = .ok (.ishr, 1)) ∧ (decode prog_10_method_82_code 110 = .ok (.sipush 32767, 3)) ∧ (decode prog_10_method_82_code 113 = .ok (.iand, 1)) ∧ (decode prog_10_method_82_code 114 = .ok (.aload_n 0, 1)) ∧ (decode prog_10_method_82_code 115 = .ok (.getfield 106, 3)) ∧ (decode prog_10_method_82_code 118 = .ok (.irem, 1)) ∧ (decode prog_10_method_82_code 119 = .ok (.invokevirtual 322, 3)) ∧ (decode prog_10_method_82_code 122 = .ok (.ifCond .lt 7, 3)) ∧ (decode prog_10_method_82_code 125 = .ok (.iconst 1, 1)) ∧ (decode prog_10_method_82_code 126 = .ok (.goto 4, 3)) ∧ (decode prog_10_method_82_code 129 = .ok (.iconst 0, 1)) ∧ (decode prog_10_method_82_code 130 = .ok (.invokestatic 220, 3)) ∧ (decode prog_10_method_82_code 133 = .ok (.iadd, 1)) := by
  have h : List.drop 88 prog_10_method_82_code.data.toList = 0x15 :: _ := rfl
  refine ⟨zq_k_u1 21 (fun z => .iload z) 4 h rfl (zq_o_21 _) (by decide +kernel), ?_⟩
  replace h := zq_nx2 (q := 90) h rfl
  refine ⟨zq_k_u2 19 (fun z => .ldc_w z) 321 h rfl (zq_o_19 _) (by decide +kernel), ?_⟩
  replace h := zq_nx3 (q := 93) h rfl
  refine ⟨zq_k_n 104 h rfl (zq_o_104 _), ?_⟩
  replace h := zq_nx1 (q := 94) h rfl
  refine ⟨zq_k_s2 17 (fun z => .sipush z) 12345 h rfl (zq_o_17 _) (by decide +kernel), ?_⟩
  replace h := zq_nx3 (q := 97) h rfl
  refine ⟨zq_k_n 96 h rfl (zq_o_96 _), ?_⟩
  replace h := zq_nx1 (q := 98) h rfl
  refine ⟨zq_k_u1 54 (fun z => .istore z) 4 h rfl (zq_o_54 _) (by decide +kernel), ?_⟩
  replace h := zq_nx2 (q := 100) h rfl
  refine ⟨zq_k_u1 21 (fun z => .iload z) 5 h rfl (zq_o_21 _) (by decide +kernel), ?_⟩
  replace h := zq_nx2 (q := 102) h rfl
  refine ⟨zq_k_n 42 h rfl (zq_o_42 _), ?_⟩
  replace h := zq_nx1 (q := 103) h rfl
  refine ⟨zq_k_u1 21 (fun z => .iload z) 7 h rfl (zq_o_21 _) (by decide +kernel), ?_⟩
  replace h := zq_nx2 (q := 105) h rfl
  refine ⟨zq_k_u1 21 (fun z => .iload z) 4 h rfl (zq_o_21 _) (by decide +kernel), ?_⟩
  replace h := zq_nx2 (q := 107) h rfl
  refine ⟨zq_k_s1 16 (fun z => .bipush z) 16 h rfl (zq_o_16 _) (by decide +kernel), ?_⟩
  replace h := zq_nx2 (q := 109) h rfl
  refine ⟨zq_k_n 122 h rfl (zq_o_122 _), ?_⟩
  replace h := zq_nx1 (q := 110) h rfl
  refine ⟨zq_k_s2 17 (fun z => .sipush z) 32767 h rfl (zq_o_17 _) (by decide +kernel), ?_⟩
  replace h := zq_nx3 (q := 113) h rfl
  refine ⟨zq_k_n 126 h rfl (zq_o_126 _), ?_⟩
  replace h := zq_nx1 (q := 114) h rfl
  refine ⟨zq_k_n 42 h rfl (zq_o_42 _), ?_⟩
  replace h := zq_nx1 (q := 115) h rfl
  refine ⟨zq_k_u2 180 (fun z => .getfield z) 106 h rfl (zq_o_180 _) (by decide +kernel), ?_⟩
  replace h := zq_nx3 (q := 118) h rfl
  refine ⟨zq_k_n 112 h rfl (zq_o_112 _), ?_⟩
  replace h := zq_nx1 (q := 119) h rfl
  refine ⟨zq_k_u2 182 (fun z => .invokevirtual z) 322 h rfl (zq_o_182 _) (by decide +kernel), ?_⟩
  replace h := zq_nx3 (q := 122) h rfl
  refine ⟨zq_k_s2 155 (fun z => .ifCond .lt z) 7 h rfl (zq_o_155 _) (by decide +kernel), ?_⟩
  replace h := zq_nx3 (q := 125) h rfl
  refine ⟨zq_k_n 4 h rfl (zq_o_4 _), ?_⟩
  replace h := zq_nx1 (q := 126) h rfl
  refine ⟨zq_k_s2 167 (fun z => .goto z) 4 h rfl (zq_o_167 _) (by decide +kernel), ?_⟩
  replace h := zq_nx3 (q := 129) h rfl
  refine ⟨zq_k_n 3 h rfl (zq_o_3 _), ?_⟩
  replace h := zq_nx1 (q := 130) h rfl
  refine ⟨zq_k_u2 184 (fun z => .invokestatic z) 220 h rfl (zq_o_184 _) (by decide +kernel), ?_⟩
  replace h := zq_nx3 (q := 133) h rfl
  exact zq_k_n 96 h rfl (zq_o_96 _)
theorem d_M_wild_88 : decode prog_10_method_82_code 88 = .ok (.iload 4, 2) := dd_M_wild_88.1
theorem d_M_wild_90 : decode prog_10_method_82_code 90 = .ok (.ldc_w 321, 3) := dd_M_wild_88.2.1
theorem d_M_wild_93 : decode prog_10_method_82_code 93 = .ok (.imul, 1) := dd_M_wild_88.2.2.1
theorem d_M_wild_94 : decode prog_10_method_82_code 94 = .ok (.sipush 12345, 3) := dd_M_wild_88.2.2.2.1
theorem d_M_wild_97 : decode prog_10_method_82_code 97 = .ok (.iadd, 1) := dd_M_wild_88.2.2.2.2.1
theorem d_M_wild_98 : decode prog_10_method_82_code 98 = .ok (.istore 4, 2) := dd_M_wild_88.2.2.2.2.2.1
theorem d_M_wild_100 : decode prog_10_method_82_code 100 = .ok (.iload 5, 2) := dd_M_wild_88.2.2.2.2.2.2.1
theorem d_M_wild_102 : decode prog_10_method_82_code 102 = .ok (.aload_n 0, 1) := dd_M_wild_88.2.2.2.2.2.2.2.1
theorem d_M_wild_103 : decode prog_10_method_82_code 103 = .ok (.iload 7, 2) := dd_M_wild_88.2.2.2.2.2.2.2.2.1
theorem d_M_wild_105 : decode prog_10_method_82_code 105 = .ok (.iload 4, 2) := dd_M_wild_88.2.2.2.2.2.2.2.2.2.1
theorem d_M_wild_107 : decode prog_10_method_82_code 107 = .ok (.bipush 16, 2) := dd_M_wild_88.2.2.2.2.2.2.2.2.2.2.1
theorem d_M_wild_109 : decode prog_10_method_82_code 109 = .ok (.ishr, 1) := dd_M_wild_88.2.2.2.2.2.2.2.2.2.2.2.1
theorem d_M_wild_110 : decode prog_10_method_82_code 110 = .ok (.sipush 32767, 3) := dd_M_wild_88.2.2.2.2.2.2.2.2.2.2.2.2.1
theorem d_M_wild_113 : decode prog_10_method_82_code 113 = .ok (.iand, 1) := dd_M_wild_88.2.2.2.2.2.2.2.2.2.2.2.2.2.1
theorem d_M_wild_114 : decode prog_10_method_82_code 114 = .ok (.aload_n 0, 1) := dd_M_wild_88.2.2.2.2.2.2.2.2.2.2.2.2.2.2.1
theorem d_M_wild_115 : decode prog_10_method_82_code 115 = .ok (.getfield 106, 3) := dd_M_wild_88.2.2.2.2.2.2.2.2.2.2.2.2.2.2.2.1
theorem d_M_wild_118 : decode prog_10_method_82_code 118 = .ok (.irem, 1) := dd_M_wild_88.2.2.2.2.2.2.2.2.2.2.2.2.2.2.2.2.1
theorem d_M_wild_119 : decode prog_10_method_82_code 119 = .ok (.invokevirtual 322, 3) := dd_M_wild_88.2.2.2.2.2.2.2.2.2.2.2.2.2.2.2.2.2.1
theorem d_M_wild_122 : decode prog_10_method_82_code 122 = .ok (.ifCond .lt 7, 3) := dd_M_wild_88.2.2.2.2.2.2.2.2.2.2.2.2.2.2.2.2.2.2.1
theorem d_M_wild_125 : decode prog_10_method_82_code 125 = .ok (.iconst 1, 1) := dd_M_wild_88.2.2.2.2.2.2.2.2.2.2.2.2.2.2.2.2.2.2.2.1
theorem d_M_wild_126 : decode prog_10_method_82_code 126 = .ok (.goto 4, 3) := dd_M_wild_88.2.2.2.2.2.2.2.2.2.2.2.2.2.2.2.2.2.2.2.2.1
theorem d_M_wild_129 : decode prog_10_method_82_code 129 = .ok (.iconst 0, 1) := dd_M_wild_88.2.2.2.2.2.2.2.2.2.2.2.2.2.2.2.2.2.2.2.2.2.1
theorem d_M_wild_130 : decode prog_10_method_82_code 130 = .ok (.invokestatic 220, 3) := dd_M_wild_88.2.2.2.2.2.2.2.2.2.2.2.2.2.2.2.2.2.2.2.2.2.2.1
theorem d_M_wild_133 : decode prog_10_method_82_code 133 = .ok (.iadd, 1) := dd_M_wild_88.2.2.2.2.2.2.2.2.2.2.2.2.2.2.2.2.2.2.2.2.2.2.2
set_option maxRecDepth 100000 in
theorem dd_M_wild_134 : (decode prog_10_method_82_code 134 = .ok (.istore 5, 2)) ∧ (decode prog_10_method_82_code 136 = .ok (.iinc 6 1, 3)) ∧ (decode prog_10_method_82_code 139 = .ok (.goto (-85), 3)) ∧ (decode prog_10_method_82_code 142 = .ok (.aload_n 0, 1)) ∧ (decode prog_10_method_82_code 143 = .ok (.invokevirtual 240, 3)) ∧ (decode prog_10_method_82_code 146 = .ok (.istore 6, 2)) ∧ (decode prog_10_method_82_code 148 = .ok (.aload_n 0, 1)) ∧ (decode prog_10_method_82_code 149 = .ok (.invokevirtual 281, 3)) ∧ (decode prog_10_method_82_code 152 = .ok (.iload_n 3, 1)) ∧ (decode prog_10_method_82_code 153 = .ok (.ifCond .ne 8, 3)) ∧ (decode prog_10_method_82_code 156 = .ok (.iload 5, 2)) ∧ (decode prog_10_method_82_code 158 = .ok (.goto 5, 3)) ∧ (decode prog_10_method_82_code 161 = .ok (.iload 6, 2)) ∧ (decode prog_10_method_82_code 163 = .ok (.ireturn, 1)) := by
  have h : List.drop 134 prog_10_method_82_code.data.toList = 0x36 :: _ := rfl
  refine ⟨zq_k_u1 54 (fun z => .istore z) 5 h rfl (zq_o_54 _) (by decide +kernel), ?_⟩
  replace h := zq_nx2 (q := 136) h rfl
  refine ⟨zq_k_iinc 6 1 h rfl (zq_o_132 _) (by decide +kernel) (by decide +kernel), ?_⟩
  replace h := zq_nx3 (q := 139) h rfl
  refine ⟨zq_k_s2 167 (fun z => .goto z) (-85) h rfl (zq_o_167 _) (by decide +kernel), ?_⟩
  replace h := zq_nx3 (q := 142) h rfl
  refine ⟨zq_k_n 42 h rfl (zq_o_42 _), ?_⟩
  replace h := zq_nx1 (q := 143) h rfl
  refine ⟨zq_k_u2 182 (fun z => .invokevirtual z) 240 h rfl (zq_o_182 _) (by decide +kernel), ?_⟩
  replace h := zq_nx3 (q := 146) h rfl
  refine ⟨zq_k_u1 54 (fun z => .istore z) 6 h rfl (zq_o_54 _) (by decide +kernel), ?_⟩
  replace h := zq_nx2 (q := 148) h rfl
  refine ⟨zq_k_n 42 h rfl (zq_o_42 _), ?_⟩
  replace h := zq_nx1 (q := 149) h rfl
  refine ⟨zq_k_u2 182 (fun z => .invokevirtual z) 281 h rfl (zq_o_182 _) (by decide +kernel), ?_⟩
  replace h := zq_nx3 (q := 152) h rfl
  refine ⟨zq_k_n 29 h rfl (zq_o_29 _), ?_⟩
  replace h := zq_nx1 (q := 153) h rfl
  refine ⟨zq_k_s2 154 (fun z => .ifCond .ne z) 8 h rfl (zq_o_154 _) (by decide +kernel), ?_⟩
  replace h := zq_nx3 (q := 156) h rfl
  refine ⟨zq_k_u1 21 (fun z => .iload z) 5 h rfl (zq_o_21 _) (by decide +kernel), ?_⟩
  replace h := zq_nx2 (q := 158) h rfl
  refine ⟨zq_k_s2 167 (fun z => .goto z) 5 h rfl (zq_o_167 _) (by decide +kernel), ?_⟩
  replace h := zq_nx3 (q := 161) h rfl
  refine ⟨zq_k_u1 21 (fun z => .iload z) 6 h rfl (zq_o_21 _) (by decide +kernel), ?_⟩
  replace h := zq_nx2 (q := 163) h rfl
  exact zq_k_n 172 h rfl (zq_o_172 _)
theorem d_M_wild_134 : decode prog_10_method_82_code 134 = .ok (.istore 5, 2) := dd_M_wild_134.1
theorem d_M_wild_136 : decode prog_10_method_82_code 136 = .ok (.iinc 6 1, 3) := dd_M_wild_134.2.1
theorem d_M_wild_139 : decode prog_10_method_82_code 139 = .ok (.goto (-85), 3) := dd_M_wild_134.2.2.1
theorem d_M_wild_142 : decode prog_10_method_82_code 142 = .ok (.aload_n 0, 1) := dd_M_wild_134.2.2.2.1
theorem d_M_wild_143 : decode prog_10_method_82_code 143 = .ok (.invokevirtual 240, 3) := dd_M_wild_134.2.2.2.2.1
theorem d_M_wild_146 : decode prog_10_method_82_code 146 = .ok (.istore 6, 2) := dd_M_wild_134.2.2.2.2.2.1
theorem d_M_wild_148 : decode prog_10_method_82_code 148 = .ok (.aload_n 0, 1) := dd_M_wild_134.2.2.2.2.2.2.1
theorem d_M_wild_149 : decode prog_10_method_82_code 149 = .ok (.invokevirtual 281, 3) := dd_M_wild_134.2.2.2.2.2.2.2.1
theorem d_M_wild_152 : decode prog_10_method_82_code 152 = .ok (.iload_n 3, 1) := dd_M_wild_134.2.2.2.2.2.2.2.2.1
theorem d_M_wild_153 : decode prog_10_method_82_code 153 = .ok (.ifCond .ne 8, 3) := dd_M_wild_134.2.2.2.2.2.2.2.2.2.1
theorem d_M_wild_156 : decode prog_10_method_82_code 156 = .ok (.iload 5, 2) := dd_M_wild_134.2.2.2.2.2.2.2.2.2.2.1
theorem d_M_wild_158 : decode prog_10_method_82_code 158 = .ok (.goto 5, 3) := dd_M_wild_134.2.2.2.2.2.2.2.2.2.2.2.1
theorem d_M_wild_161 : decode prog_10_method_82_code 161 = .ok (.iload 6, 2) := dd_M_wild_134.2.2.2.2.2.2.2.2.2.2.2.2.1
theorem d_M_wild_163 : decode prog_10_method_82_code 163 = .ok (.ireturn, 1) := dd_M_wild_134.2.2.2.2.2.2.2.2.2.2.2.2.2
def f_M_wild_130 (rec54 : Nat → Int32 → Int32 → Int32 → Int32 → Int32 → mH → Option (Int32 × mH)) (b0 : Nat) (b2 : Int32) (b3 : Int32) (b4 : Int32) (b6 : Int32) (s0 : Int32) (s1 : Int32) (h : mH) : Option (Int32 × mH) :=
  bd2 (f_M_flag s1 h) fun x44 h42 =>
  rec54 b0 b2 b3 b4 (s0 + x44) (b6 + (1 : Int32)) h42
set_option maxRecDepth 20000 in
theorem t_M_wild_130 {sc : Nat × (Nat → Int32)} (rec54 : Nat → Int32 → Int32 → Int32 → Int32 → Int32 → mH → Option (Int32 × mH)) (hrec54 : ∀ (b0 : Nat) (b2 : Int32) (b3 : Int32) (b4 : Int32) (b5 : Int32) (b6 : Int32) (h : mH) (r : Int32) (h' : mH), rec54 b0 b2 b3 b4 b5 b6 h = some (r, h') → G sc y_M_wild prog_10_method_82_code 8 (some .int) 5 113 54 [(0, .ref b0), (2, .int b2), (3, .int b3), (4, .int b4), (5, .int b5), (6, .int b6)] [] h (some (.int r)) h') (b0 : Nat) (b2 : Int32) (b3 : Int32) (b4 : Int32) (b6 : Int32) (s0 : Int32) (s1 : Int32) (h : mH) (r : Int32) (h' : mH) (hf : f_M_wild_130 rec54 b0 b2 b3 b4 b6 s0 s1 h = some (r, h')) : G sc y_M_wild prog_10_method_82_code 8 (some .int) 5 113 130 [(0, .ref b0), (2, .int b2), (3, .int b3), (4, .int b4), (6, .int b6)] [.int s1, .int s0] h (some (.int r)) h' := by
  unfold f_M_wild_130 at hf
  obtain ⟨x44, h42, e43, hf⟩ := bd2_e hf
  refine g_callS (pc := 130) [.int s1] (site_of si_M_flag (by decide) (by decide)) wd_1180 wd_1181 d_M_wild_130 (Nat.le_of_ble_eq_true rfl) (fun z => absurd z (by decide)) (fun z => absurd z (by decide)) (fun z => absurd z (by decide)) (c_M_flag e43) rfl ?_
  refine g_st [.int x44, .int s0] rfl ?_
  refine g_iadd (pc := 133) d_M_wild_133 ?_
  refine g_istore (pc := 134) [(5, .int (s0 + x44)), (0, .ref b0), (2, .int b2), (3, .int b3), (4, .int b4), (6, .int b6)] d_M_wild_134 (Nat.le_of_ble_eq_true rfl) rfl ?_
  refine g_iinc (pc := 136) 5 (b6 + (1 : Int32)) [(6, .int (b6 + (1 : Int32))), (5, .int (s0 + x44)), (0, .ref b0), (2, .int b2), (3, .int b3), (4, .int b4)] d_M_wild_136 rfl rfl (Nat.le_of_ble_eq_true rfl) rfl ?_
  refine g_goto (pc := 139) 54 d_M_wild_139 (by decide) ?_
  refine g_lv [2, 3, 4, 5, 1, 0] rfl ?_
  exact hrec54 _ _ _ _ _ _ _ _ _  hf
def f_M_wild_54b (rec54 : Nat → Int32 → Int32 → Int32 → Int32 → Int32 → mH → Option (Int32 × mH)) (b0 : Nat) (b2 : Int32) (b3 : Int32) (b4 : Int32) (b5 : Int32) (b6 : Int32) (h : mH) : Option (Int32 × mH) :=
  if b2 ≤ b6 then
    bd1 (kC h b0 8) fun _ =>
    bd2 (f_M_fallsNow b0 h) fun x23 h21 =>
    bd1 (kC h21 b0 8) fun _ =>
    bd1 (f_M_returns b0 h21) fun h26 =>
    if b3 = 0 then
      some (b5, h26)
    else
      some (x23, h26)
  else
    bd1 (gI h b0 8 3) fun x29 =>
    if x29 = 0 then none else
    bd1 (gI h b0 8 2) fun x32 =>
    if x32 = 0 then none else
    bd1 (kC h b0 8) fun _ =>
    bd2 (f_M_breaks b0 (((((b4 * (1103515245 : Int32)) + (12345 : Int32)) >>> ((16 : Int32) &&& 31)) &&& (32767 : Int32)) - ((((b4 * (1103515245 : Int32)) + (12345 : Int32)) >>> ((16 : Int32) &&& 31)) &&& (32767 : Int32)) / x29 * x29) (((((((b4 * (1103515245 : Int32)) + (12345 : Int32)) * (1103515245 : Int32)) + (12345 : Int32)) >>> ((16 : Int32) &&& 31)) &&& (32767 : Int32)) - ((((((b4 * (1103515245 : Int32)) + (12345 : Int32)) * (1103515245 : Int32)) + (12345 : Int32)) >>> ((16 : Int32) &&& 31)) &&& (32767 : Int32)) / x32 * x32) h) fun x39 h37 =>
    if x39 < 0 then
      f_M_wild_130 rec54 b0 b2 b3 ((((b4 * (1103515245 : Int32)) + (12345 : Int32)) * (1103515245 : Int32)) + (12345 : Int32)) b6 b5 (0 : Int32) h37
    else
      f_M_wild_130 rec54 b0 b2 b3 ((((b4 * (1103515245 : Int32)) + (12345 : Int32)) * (1103515245 : Int32)) + (12345 : Int32)) b6 b5 (1 : Int32) h37
set_option maxRecDepth 20000 in
theorem t_M_wild_54b {sc : Nat × (Nat → Int32)} (rec54 : Nat → Int32 → Int32 → Int32 → Int32 → Int32 → mH → Option (Int32 × mH)) (hrec54 : ∀ (b0 : Nat) (b2 : Int32) (b3 : Int32) (b4 : Int32) (b5 : Int32) (b6 : Int32) (h : mH) (r : Int32) (h' : mH), rec54 b0 b2 b3 b4 b5 b6 h = some (r, h') → G sc y_M_wild prog_10_method_82_code 8 (some .int) 5 113 54 [(0, .ref b0), (2, .int b2), (3, .int b3), (4, .int b4), (5, .int b5), (6, .int b6)] [] h (some (.int r)) h') (b0 : Nat) (b2 : Int32) (b3 : Int32) (b4 : Int32) (b5 : Int32) (b6 : Int32) (h : mH) (r : Int32) (h' : mH) (hf : f_M_wild_54b rec54 b0 b2 b3 b4 b5 b6 h = some (r, h')) : G sc y_M_wild prog_10_method_82_code 8 (some .int) 5 113 54 [(0, .ref b0), (2, .int b2), (3, .int b3), (4, .int b4), (5, .int b5), (6, .int b6)] [] h (some (.int r)) h' := by
  unfold f_M_wild_54b at hf
  refine g_iload (pc := 54) 5 d_M_wild_54 rfl ?_
  refine g_iload_n (pc := 56) 1 d_M_wild_56 rfl rfl ?_
  refine g_icmpge (pc := 57) 142 d_M_wild_57 (by decide) (fun c41 => ?_) (fun c41 => ?_)
  · replace hf := (if_pos c41).symm.trans hf
    refine g_aload_n (pc := 142) 0 d_M_wild_142 rfl rfl ?_
    obtain ⟨u20, e19, hf⟩ := bd1_e hf
    obtain ⟨x23, h21, e22, hf⟩ := bd2_e hf
    refine g_callV (pc := 143) (ci := 8) [] (site_of si_M_fallsNow (by decide) (by decide)) wd_1241 wd_1243 wp_56 d_M_wild_143 rfl e19 (Nat.le_of_ble_eq_true rfl) (fun z => absurd z (by decide)) (fun z => absurd z (by decide)) (fun z => absurd z (by decide)) (c_M_fallsNow e22) rfl ?_
    refine g_st [.int x23] rfl ?_
    refine g_istore (pc := 146) [(6, .int x23), (0, .ref b0), (2, .int b2), (3, .int b3), (4, .int b4), (5, .int b5)] d_M_wild_146 (Nat.le_of_ble_eq_true rfl) rfl ?_
    refine g_aload_n (pc := 148) 1 d_M_wild_148 rfl rfl ?_
    obtain ⟨u25, e24, hf⟩ := bd1_e hf
    obtain ⟨h26, e27, hf⟩ := bd1_e hf
    refine g_callV (pc := 149) (ci := 8) [] (site_of si_M_returns (by decide) (by decide)) wd_1315 wd_1317 wp_66 d_M_wild_149 rfl e24 (Nat.le_of_ble_eq_true rfl) (fun z => absurd z (by decide)) (fun z => absurd z (by decide)) (fun z => absurd z (by decide)) (c_M_returns e27) rfl ?_
    refine g_st [] rfl ?_
    refine g_iload_n (pc := 152) 3 d_M_wild_152 rfl rfl ?_
    refine g_ifne (pc := 153) 161 d_M_wild_153 (by decide) (fun c28 => ?_) (fun c28 => ?_)
    · replace hf := (if_neg c28).symm.trans hf
      refine g_iload (pc := 161) 0 d_M_wild_161 rfl ?_
      obtain ⟨rfl, rfl⟩ := ret2 hf
      exact g_iret (pc := 163) rfl d_M_wild_163
    · replace hf := (if_pos c28).symm.trans hf
      refine g_iload (pc := 156) 5 d_M_wild_156 rfl ?_
      refine g_goto (pc := 158) 163 d_M_wild_158 (by decide) ?_
      obtain ⟨rfl, rfl⟩ := ret2 hf
      exact g_iret (pc := 163) rfl d_M_wild_163
  · replace hf := (if_neg c41).symm.trans hf
    refine g_iload (pc := 60) 3 d_M_wild_60 rfl ?_
    refine g_ldcw (pc := 62) (1103515245 : Int32) d_M_wild_62 wd_1378 ?_
    refine g_imul (pc := 65) d_M_wild_65 ?_
    refine g_sipush (pc := 66) (12345 : Int32) d_M_wild_66 (by decide) ?_
    refine g_iadd (pc := 69) d_M_wild_69 ?_
    refine g_istore (pc := 70) [(4, .int ((b4 * (1103515245 : Int32)) + (12345 : Int32))), (0, .ref b0), (2, .int b2), (3, .int b3), (5, .int b5), (6, .int b6)] d_M_wild_70 (Nat.le_of_ble_eq_true rfl) rfl ?_
    refine g_iload (pc := 72) 0 d_M_wild_72 rfl ?_
    refine g_bipush (pc := 74) (16 : Int32) d_M_wild_74 (by decide) ?_
    refine g_ishr (pc := 76) d_M_wild_76 ?_
    refine g_sipush (pc := 77) (32767 : Int32) d_M_wild_77 (by decide) ?_
    refine g_iand (pc := 80) d_M_wild_80 ?_
    refine g_aload_n (pc := 81) 1 d_M_wild_81 rfl rfl ?_
    obtain ⟨x29, e30, hf⟩ := bd1_e hf
    refine g_get (pc := 82) (ci := 8) (kk := 3) d_M_wild_82 rfl in_M (by decide) wd_941 (gI_spec e30) ?_
    have c31 : ¬ x29 = 0 := fun z => absurd ((if_pos z).symm.trans hf) (by simp)
    replace hf := (if_neg c31).symm.trans hf
    refine g_irem (pc := 85) d_M_wild_85 c31 ?_
    refine g_istore (pc := 86) [(7, .int (((((b4 * (1103515245 : Int32)) + (12345 : Int32)) >>> ((16 : Int32) &&& 31)) &&& (32767 : Int32)) - ((((b4 * (1103515245 : Int32)) + (12345 : Int32)) >>> ((16 : Int32) &&& 31)) &&& (32767 : Int32)) / x29 * x29)), (4, .int ((b4 * (1103515245 : Int32)) + (12345 : Int32))), (0, .ref b0), (2, .int b2), (3, .int b3), (5, .int b5), (6, .int b6)] d_M_wild_86 (Nat.le_of_ble_eq_true rfl) rfl ?_
    refine g_iload (pc := 88) 1 d_M_wild_88 rfl ?_
    refine g_ldcw (pc := 90) (1103515245 : Int32) d_M_wild_90 wd_1378 ?_
    refine g_imul (pc := 93) d_M_wild_93 ?_
    refine g_sipush (pc := 94) (12345 : Int32) d_M_wild_94 (by decide) ?_
    refine g_iadd (pc := 97) d_M_wild_97 ?_
    refine g_istore (pc := 98) [(4, .int ((((b4 * (1103515245 : Int32)) + (12345 : Int32)) * (1103515245 : Int32)) + (12345 : Int32))), (7, .int (((((b4 * (1103515245 : Int32)) + (12345 : Int32)) >>> ((16 : Int32) &&& 31)) &&& (32767 : Int32)) - ((((b4 * (1103515245 : Int32)) + (12345 : Int32)) >>> ((16 : Int32) &&& 31)) &&& (32767 : Int32)) / x29 * x29)), (0, .ref b0), (2, .int b2), (3, .int b3), (5, .int b5), (6, .int b6)] d_M_wild_98 (Nat.le_of_ble_eq_true rfl) rfl ?_
    refine g_iload (pc := 100) 5 d_M_wild_100 rfl ?_
    refine g_aload_n (pc := 102) 2 d_M_wild_102 rfl rfl ?_
    refine g_iload (pc := 103) 1 d_M_wild_103 rfl ?_
    refine g_iload (pc := 105) 0 d_M_wild_105 rfl ?_
    refine g_bipush (pc := 107) (16 : Int32) d_M_wild_107 (by decide) ?_
    refine g_ishr (pc := 109) d_M_wild_109 ?_
    refine g_sipush (pc := 110) (32767 : Int32) d_M_wild_110 (by decide) ?_
    refine g_iand (pc := 113) d_M_wild_113 ?_
    refine g_aload_n (pc := 114) 2 d_M_wild_114 rfl rfl ?_
    obtain ⟨x32, e33, hf⟩ := bd1_e hf
    refine g_get (pc := 115) (ci := 8) (kk := 2) d_M_wild_115 rfl in_M (by decide) wd_940 (gI_spec e33) ?_
    have c34 : ¬ x32 = 0 := fun z => absurd ((if_pos z).symm.trans hf) (by simp)
    replace hf := (if_neg c34).symm.trans hf
    refine g_irem (pc := 118) d_M_wild_118 c34 ?_
    obtain ⟨u36, e35, hf⟩ := bd1_e hf
    obtain ⟨x39, h37, e38, hf⟩ := bd2_e hf
    refine g_callV (pc := 119) (ci := 8) [.int (((((b4 * (1103515245 : Int32)) + (12345 : Int32)) >>> ((16 : Int32) &&& 31)) &&& (32767 : Int32)) - ((((b4 * (1103515245 : Int32)) + (12345 : Int32)) >>> ((16 : Int32) &&& 31)) &&& (32767 : Int32)) / x29 * x29), .int (((((((b4 * (1103515245 : Int32)) + (12345 : Int32)) * (1103515245 : Int32)) + (12345 : Int32)) >>> ((16 : Int32) &&& 31)) &&& (32767 : Int32)) - ((((((b4 * (1103515245 : Int32)) + (12345 : Int32)) * (1103515245 : Int32)) + (12345 : Int32)) >>> ((16 : Int32) &&& 31)) &&& (32767 : Int32)) / x32 * x32)] (site_of si_M_breaks (by decide) (by decide)) wd_1379 wd_1234 wd_1235 d_M_wild_119 rfl e35 (Nat.le_of_ble_eq_true rfl) (fun z => absurd z (by decide)) (fun z => absurd z (by decide)) (fun z => absurd z (by decide)) (c_M_breaks e38) rfl ?_
    refine g_st [.int x39, .int b5] rfl ?_
    refine g_iflt (pc := 122) 129 d_M_wild_122 (by decide) (fun c40 => ?_) (fun c40 => ?_)
    · replace hf := (if_pos c40).symm.trans hf
      refine g_iconst (pc := 129) (0 : Int32) d_M_wild_129 (by decide) ?_
      refine g_lv [2, 3, 4, 0, 6] rfl ?_
      exact t_M_wild_130 rec54 hrec54 _ _ _ _ _ _ _ _ _ _  hf
    · replace hf := (if_neg c40).symm.trans hf
      refine g_iconst (pc := 125) (1 : Int32) d_M_wild_125 (by decide) ?_
      refine g_goto (pc := 126) 130 d_M_wild_126 (by decide) ?_
      refine g_lv [2, 3, 4, 0, 6] rfl ?_
      exact t_M_wild_130 rec54 hrec54 _ _ _ _ _ _ _ _ _ _  hf
def f_M_wild_54  : Nat → Nat → Int32 → Int32 → Int32 → Int32 → Int32 → mH → Option (Int32 × mH)
  | 0 => fun _ _ _ _ _ _ _ => none
  | n + 1 => f_M_wild_54b  (f_M_wild_54  n)
theorem t_M_wild_54 {sc : Nat × (Nat → Int32)}  : ∀ (n : Nat) (b0 : Nat) (b2 : Int32) (b3 : Int32) (b4 : Int32) (b5 : Int32) (b6 : Int32) (h : mH) (r : Int32) (h' : mH) (hf : f_M_wild_54  n b0 b2 b3 b4 b5 b6 h = some (r, h')), G sc y_M_wild prog_10_method_82_code 8 (some .int) 5 113 54 [(0, .ref b0), (2, .int b2), (3, .int b3), (4, .int b4), (5, .int b5), (6, .int b6)] [] h (some (.int r)) h'
  | 0, _, _, _, _, _, _, _, _, _, hf => by cases hf
  | n + 1, _, _, _, _, _, _, _, _, _, hf => t_M_wild_54b  (f_M_wild_54  n) (t_M_wild_54  n) _ _ _ _ _ _ _ _ _ hf
def f_M_wild_38   (h : mH) : Option (Int32 × mH) :=
  some (((-2) : Int32), h)
set_option maxRecDepth 20000 in
theorem t_M_wild_38 {sc : Nat × (Nat → Int32)}   (h : mH) (r : Int32) (h' : mH) (hf : f_M_wild_38   h = some (r, h')) : G sc y_M_wild prog_10_method_82_code 8 (some .int) 5 113 38 [] [] h (some (.int r)) h' := by
  unfold f_M_wild_38 at hf
  refine g_bipush (pc := 38) ((-2) : Int32) d_M_wild_38 (by decide) ?_
  obtain ⟨rfl, rfl⟩ := ret2 hf
  exact g_iret (pc := 40) rfl d_M_wild_40
def f_M_wild_22   (h : mH) : Option (Int32 × mH) :=
  some (((-1) : Int32), h)
set_option maxRecDepth 20000 in
theorem t_M_wild_22 {sc : Nat × (Nat → Int32)}   (h : mH) (r : Int32) (h' : mH) (hf : f_M_wild_22   h = some (r, h')) : G sc y_M_wild prog_10_method_82_code 8 (some .int) 5 113 22 [] [] h (some (.int r)) h' := by
  unfold f_M_wild_22 at hf
  refine g_iconst (pc := 22) ((-1) : Int32) d_M_wild_22 (by decide) ?_
  obtain ⟨rfl, rfl⟩ := ret2 hf
  exact g_iret (pc := 23) rfl d_M_wild_23
def f_M_wild_0  (a0 : Nat) (a1 : Int32) (a2 : Int32) (a3 : Int32) (h : mH) : Option (Int32 × mH) :=
  bd2 (f_M_in a2.toInt64 (1 : Int64) (60 : Int64) h) fun x3 h1 =>
  if x3 = 0 then
    f_M_wild_22  h1
  else
    bd2 (f_M_in a3.toInt64 (0 : Int64) (1 : Int64) h1) fun x6 h4 =>
    if x6 = 0 then
      f_M_wild_22  h4
    else
      bd1 (gI h4 a0 8 3) fun x7 =>
      if x7 = 0 then
        f_M_wild_38  h4
      else
        bd1 (gI h4 a0 8 2) fun x9 =>
        if x9 = 0 then
          f_M_wild_38  h4
        else
          bd1 (kC h4 a0 8) fun _ =>
          bd1 (f_M_saves a0 h4) fun h13 =>
          f_M_wild_54  FU a0 a2 a3 a1 (0 : Int32) (0 : Int32) h13
set_option maxRecDepth 20000 in
theorem t_M_wild_0 {sc : Nat × (Nat → Int32)}  (a0 : Nat) (a1 : Int32) (a2 : Int32) (a3 : Int32) (h : mH) (r : Int32) (h' : mH) (hf : f_M_wild_0  a0 a1 a2 a3 h = some (r, h')) : G sc y_M_wild prog_10_method_82_code 8 (some .int) 5 113 0 [(0, .ref a0), (1, .int a1), (2, .int a2), (3, .int a3)] [] h (some (.int r)) h' := by
  unfold f_M_wild_0 at hf
  refine g_iload_n (pc := 0) 2 d_M_wild_0 rfl rfl ?_
  refine g_i2l (pc := 1) d_M_wild_1 ?_
  refine g_lconst (pc := 2) (1 : Int64) d_M_wild_2 (by decide) ?_
  refine g_ldc2 (pc := 3) (60 : Int64) d_M_wild_3 wd_1377 ?_
  obtain ⟨x3, h1, e2, hf⟩ := bd2_e hf
  refine g_callS (pc := 6) [.long a2.toInt64, .long (1 : Int64), .long (60 : Int64)] (site_of si_M_in (by decide) (by decide)) wd_1061 wd_1062 d_M_wild_6 (Nat.le_of_ble_eq_true rfl) (fun z => absurd z (by decide)) (fun z => absurd z (by decide)) (fun z => absurd z (by decide)) (c_M_in e2) rfl ?_
  refine g_st [.int x3] rfl ?_
  refine g_ifeq (pc := 9) 22 d_M_wild_9 (by decide) (fun c18 => ?_) (fun c18 => ?_)
  · replace hf := (if_pos c18).symm.trans hf
    refine g_lv [] rfl ?_
    exact t_M_wild_22  _ _ _  hf
  · replace hf := (if_neg c18).symm.trans hf
    refine g_iload_n (pc := 12) 3 d_M_wild_12 rfl rfl ?_
    refine g_i2l (pc := 13) d_M_wild_13 ?_
    refine g_lconst (pc := 14) (0 : Int64) d_M_wild_14 (by decide) ?_
    refine g_lconst (pc := 15) (1 : Int64) d_M_wild_15 (by decide) ?_
    obtain ⟨x6, h4, e5, hf⟩ := bd2_e hf
    refine g_callS (pc := 16) [.long a3.toInt64, .long (0 : Int64), .long (1 : Int64)] (site_of si_M_in (by decide) (by decide)) wd_1061 wd_1062 d_M_wild_16 (Nat.le_of_ble_eq_true rfl) (fun z => absurd z (by decide)) (fun z => absurd z (by decide)) (fun z => absurd z (by decide)) (c_M_in e5) rfl ?_
    refine g_st [.int x6] rfl ?_
    refine g_ifne (pc := 19) 24 d_M_wild_19 (by decide) (fun c17 => ?_) (fun c17 => ?_)
    · replace hf := (if_neg c17).symm.trans hf
      refine g_aload_n (pc := 24) 0 d_M_wild_24 rfl rfl ?_
      obtain ⟨x7, e8, hf⟩ := bd1_e hf
      refine g_get (pc := 25) (ci := 8) (kk := 3) d_M_wild_25 rfl in_M (by decide) wd_941 (gI_spec e8) ?_
      refine g_ifeq (pc := 28) 38 d_M_wild_28 (by decide) (fun c16 => ?_) (fun c16 => ?_)
      · replace hf := (if_pos c16).symm.trans hf
        refine g_lv [] rfl ?_
        exact t_M_wild_38  _ _ _  hf
      · replace hf := (if_neg c16).symm.trans hf
        refine g_aload_n (pc := 31) 0 d_M_wild_31 rfl rfl ?_
        obtain ⟨x9, e10, hf⟩ := bd1_e hf
        refine g_get (pc := 32) (ci := 8) (kk := 2) d_M_wild_32 rfl in_M (by decide) wd_940 (gI_spec e10) ?_
        refine g_ifne (pc := 35) 41 d_M_wild_35 (by decide) (fun c15 => ?_) (fun c15 => ?_)
        · replace hf := (if_neg c15).symm.trans hf
          refine g_aload_n (pc := 41) 0 d_M_wild_41 rfl rfl ?_
          obtain ⟨u12, e11, hf⟩ := bd1_e hf
          obtain ⟨h13, e14, hf⟩ := bd1_e hf
          refine g_callV (pc := 42) (ci := 8) [] (site_of si_M_saves (by decide) (by decide)) wd_1307 wd_1309 wp_64 d_M_wild_42 rfl e11 (Nat.le_of_ble_eq_true rfl) (fun z => absurd z (by decide)) (fun z => absurd z (by decide)) (fun z => absurd z (by decide)) (c_M_saves e14) rfl ?_
          refine g_st [] rfl ?_
          refine g_iload_n (pc := 45) 1 d_M_wild_45 rfl rfl ?_
          refine g_istore (pc := 46) [(4, .int a1), (0, .ref a0), (1, .int a1), (2, .int a2), (3, .int a3)] d_M_wild_46 (Nat.le_of_ble_eq_true rfl) rfl ?_
          refine g_iconst (pc := 48) (0 : Int32) d_M_wild_48 (by decide) ?_
          refine g_istore (pc := 49) [(5, .int (0 : Int32)), (4, .int a1), (0, .ref a0), (1, .int a1), (2, .int a2), (3, .int a3)] d_M_wild_49 (Nat.le_of_ble_eq_true rfl) rfl ?_
          refine g_iconst (pc := 51) (0 : Int32) d_M_wild_51 (by decide) ?_
          refine g_istore (pc := 52) [(6, .int (0 : Int32)), (5, .int (0 : Int32)), (4, .int a1), (0, .ref a0), (1, .int a1), (2, .int a2), (3, .int a3)] d_M_wild_52 (Nat.le_of_ble_eq_true rfl) rfl ?_
          refine g_lv [3, 5, 6, 2, 1, 0] rfl ?_
          exact t_M_wild_54  FU _ _ _ _ _ _ _ _ _  hf
        · replace hf := (if_pos c15).symm.trans hf
          refine g_lv [] rfl ?_
          exact t_M_wild_38  _ _ _  hf
    · replace hf := (if_pos c17).symm.trans hf
      refine g_lv [] rfl ?_
      exact t_M_wild_22  _ _ _  hf
def f_M_wild (a0 : Nat) (a1 : Int32) (a2 : Int32) (a3 : Int32) (h : mH) : Option (Int32 × mH) := f_M_wild_0 a0 a1 a2 a3 h
theorem c_M_wild {sc : Nat × (Nat → Int32)} {a0 : Nat} {a1 : Int32} {a2 : Int32} {a3 : Int32} {h : mH} {r : Int32} {h' : mH} (hf : f_M_wild a0 a1 a2 a3 h = some (r, h')) : MM sc y_M_wild prog_10_method_82_code 8 (some .int) 5 113 [.ref a0, .int a1, .int a2, .int a3] h (some (.int r)) h' :=
  mm_of_G (by decide) (Nat.le_of_ble_eq_true rfl) (t_M_wild_0 _ _ _ _ _ _ _ hf)
