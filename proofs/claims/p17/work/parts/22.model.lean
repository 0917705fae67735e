/-! M falls ()I -/
set_option maxRecDepth 100000 in
theorem dd_M_falls_0 : (decode prog_10_method_51_code 0 = .ok (.aload_n 0, 1)) ∧ (decode prog_10_method_51_code 1 = .ok (.invokevirtual 240, 3)) ∧ (decode prog_10_method_51_code 4 = .ok (.ireturn, 1)) := by
  have h : List.drop 0 prog_10_method_51_code.data.toList = 0x2a :: _ := rfl
  refine ⟨zq_k_n 42 h rfl (zq_o_42 _), ?_⟩
  replace h := zq_nx1 (q := 1) h rfl
  refine ⟨zq_k_u2 182 (fun z => .invokevirtual z) 240 h rfl (zq_o_182 _) (by decide +kernel), ?_⟩
  replace h := zq_nx3 (q := 4) h rfl
  exact zq_k_n 172 h rfl (zq_o_172 _)
theorem d_M_falls_0 : decode prog_10_method_51_code 0 = .ok (.aload_n 0, 1) := dd_M_falls_0.1
theorem d_M_falls_1 : decode prog_10_method_51_code 1 = .ok (.invokevirtual 240, 3) := dd_M_falls_0.2.1
theorem d_M_falls_4 : decode prog_10_method_51_code 4 = .ok (.ireturn, 1) := dd_M_falls_0.2.2
def f_M_falls_0  (a0 : Nat) (h : mH) : Option (Int32 × mH) :=
  bd1 (kC h a0 8) fun _ =>
  bd2 (f_M_fallsNow a0 h) fun x5 h3 =>
  some (x5, h3)
set_option maxRecDepth 20000 in
theorem t_M_falls_0 {sc : Nat × (Nat → Int32)}  (a0 : Nat) (h : mH) (r : Int32) (h' : mH) (hf : f_M_falls_0  a0 h = some (r, h')) : G sc y_M_falls prog_10_method_51_code 1 (some .int) 3 67 0 [(0, .ref a0)] [] h (some (.int r)) h' := by
  unfold f_M_falls_0 at hf
  refine g_aload_n (pc := 0) 0 d_M_falls_0 rfl rfl ?_
  obtain ⟨u2, e1, hf⟩ := bd1_e hf
  obtain ⟨x5, h3, e4, hf⟩ := bd2_e hf
  refine g_callV (pc := 1) (ci := 8) [] (site_of si_M_fallsNow (by decide) (by decide)) wd_1241 wd_1243 wp_56 d_M_falls_1 rfl e1 (Nat.le_of_ble_eq_true rfl) (fun z => absurd z (by decide)) (fun z => absurd z (by decide)) (fun z => absurd z (by decide)) (c_M_fallsNow e4) rfl ?_
  refine g_st [.int x5] rfl ?_
  obtain ⟨rfl, rfl⟩ := ret2 hf
  exact g_iret (pc := 4) rfl d_M_falls_4
def f_M_falls (a0 : Nat) (h : mH) : Option (Int32 × mH) := f_M_falls_0 a0 h
theorem c_M_falls {sc : Nat × (Nat → Int32)} {a0 : Nat} {h : mH} {r : Int32} {h' : mH} (hf : f_M_falls a0 h = some (r, h')) : MM sc y_M_falls prog_10_method_51_code 1 (some .int) 3 67 [.ref a0] h (some (.int r)) h' :=
  mm_of_G (by decide) (Nat.le_of_ble_eq_true rfl) (t_M_falls_0 _ _ _ _ hf)
/-! M most (I)I -/
set_option maxRecDepth 100000 in
theorem dd_M_most_0 : (decode prog_10_method_52_code 0 = .ok (.iload_n 1, 1)) ∧ (decode prog_10_method_52_code 1 = .ok (.i2l, 1)) ∧ (decode prog_10_method_52_code 2 = .ok (.lconst 0, 1)) ∧ (decode prog_10_method_52_code 3 = .ok (.lconst 1, 1)) ∧ (decode prog_10_method_52_code 4 = .ok (.invokestatic 114, 3)) ∧ (decode prog_10_method_52_code 7 = .ok (.ifCond .ne 5, 3)) ∧ (decode prog_10_method_52_code 10 = .ok (.iconst (-1), 1)) ∧ (decode prog_10_method_52_code 11 = .ok (.ireturn, 1)) ∧ (decode prog_10_method_52_code 12 = .ok (.bipush (-4), 2)) ∧ (decode prog_10_method_52_code 14 = .ok (.istore_n 2, 1)) ∧ (decode prog_10_method_52_code 15 = .ok (.iconst 0, 1)) ∧ (decode prog_10_method_52_code 16 = .ok (.istore_n 3, 1)) ∧ (decode prog_10_method_52_code 17 = .ok (.iconst 0, 1)) ∧ (decode prog_10_method_52_code 18 = .ok (.istore 4, 2)) ∧ (decode prog_10_method_52_code 20 = .ok (.iload 4, 2)) ∧ (decode prog_10_method_52_code 22 = .ok (.aload_n 0, 1)) ∧ (decode prog_10_method_52_code 23 = .ok (.getfield 106, 3)) ∧ (decode prog_10_method_52_code 26 = .ok (.if_icmp .ge 67, 3)) ∧ (decode prog_10_method_52_code 29 = .ok (.aload_n 0, 1)) ∧ (decode prog_10_method_52_code 30 = .ok (.iload 4, 2)) ∧ (decode prog_10_method_52_code 32 = .ok (.invokevirtual 191, 3)) ∧ (decode prog_10_method_52_code 35 = .ok (.ifCond .eq 23, 3)) ∧ (decode prog_10_method_52_code 38 = .ok (.aload_n 0, 1)) ∧ (decode prog_10_method_52_code 39 = .ok (.iload 4, 2)) := by
  have h : List.drop 0 prog_10_method_52_code.data.toList = 0x1b :: _ := rfl
  refine ⟨zq_k_n 27 h rfl (zq_o_27 _), ?_⟩
  replace h := zq_nx1 (q := 1) h rfl
  refine ⟨zq_k_n 133 h rfl (zq_o_133 _), ?_⟩
  replace h := zq_nx1 (q := 2) h rfl
  refine ⟨zq_k_n 9 h rfl (zq_o_9 _), ?_⟩
  replace h := zq_nx1 (q := 3) h rfl
  refine ⟨zq_k_n 10 h rfl (zq_o_10 _), ?_⟩
  replace h := zq_nx1 (q := 4) h rfl
  refine ⟨zq_k_u2 184 (fun z => .invokestatic z) 114 h rfl (zq_o_184 _) (by decide +kernel), ?_⟩
  replace h := zq_nx3 (q := 7) h rfl
  refine ⟨zq_k_s2 154 (fun z => .ifCond .ne z) 5 h rfl (zq_o_154 _) (by decide +kernel), ?_⟩
  replace h := zq_nx3 (q := 10) h rfl
  refine ⟨zq_k_n 2 h rfl (zq_o_2 _), ?_⟩
  replace h := zq_nx1 (q := 11) h rfl
  refine ⟨zq_k_n 172 h rfl (zq_o_172 _), ?_⟩
  replace h := zq_nx1 (q := 12) h rfl
  refine ⟨zq_k_s1 16 (fun z => .bipush z) (-4) h rfl (zq_o_16 _) (by decide +kernel), ?_⟩
  replace h := zq_nx2 (q := 14) h rfl
  refine ⟨zq_k_n 61 h rfl (zq_o_61 _), ?_⟩
  replace h := zq_nx1 (q := 15) h rfl
  refine ⟨zq_k_n 3 h rfl (zq_o_3 _), ?_⟩
  replace h := zq_nx1 (q := 16) h rfl
  refine ⟨zq_k_n 62 h rfl (zq_o_62 _), ?_⟩
  replace h := zq_nx1 (q := 17) h rfl
  refine ⟨zq_k_n 3 h rfl (zq_o_3 _), ?_⟩
  replace h := zq_nx1 (q := 18) h rfl
  refine ⟨zq_k_u1 54 (fun z => .istore z) 4 h rfl (zq_o_54 _) (by decide +kernel), ?_⟩
  replace h := zq_nx2 (q := 20) h rfl
  refine ⟨zq_k_u1 21 (fun z => .iload z) 4 h rfl (zq_o_21 _) (by decide +kernel), ?_⟩
  replace h := zq_nx2 (q := 22) h rfl
  refine ⟨zq_k_n 42 h rfl (zq_o_42 _), ?_⟩
  replace h := zq_nx1 (q := 23) h rfl
  refine ⟨zq_k_u2 180 (fun z => .getfield z) 106 h rfl (zq_o_180 _) (by decide +kernel), ?_⟩
  replace h := zq_nx3 (q := 26) h rfl
  refine ⟨zq_k_s2 162 (fun z => .if_icmp .ge z) 67 h rfl (zq_o_162 _) (by decide +kernel), ?_⟩
  replace h := zq_nx3 (q := 29) h rfl
  refine ⟨zq_k_n 42 h rfl (zq_o_42 _), ?_⟩
  replace h := zq_nx1 (q := 30) h rfl
  refine ⟨zq_k_u1 21 (fun z => .iload z) 4 h rfl (zq_o_21 _) (by decide +kernel), ?_⟩
  replace h := zq_nx2 (q := 32) h rfl
  refine ⟨zq_k_u2 182 (fun z => .invokevirtual z) 191 h rfl (zq_o_182 _) (by decide +kernel), ?_⟩
  replace h := zq_nx3 (q := 35) h rfl
  refine ⟨zq_k_s2 153 (fun z => .ifCond .eq z) 23 h rfl (zq_o_153 _) (by decide +kernel), ?_⟩
  replace h := zq_nx3 (q := 38) h rfl
  refine ⟨zq_k_n 42 h rfl (zq_o_42 _), ?_⟩
  replace h := zq_nx1 (q := 39) h rfl
  exact zq_k_u1 21 (fun z => .iload z) 4 h rfl (zq_o_21 _) (by decide +kernel)
theorem d_M_most_0 : decode prog_10_method_52_code 0 = .ok (.iload_n 1, 1) := dd_M_most_0.1
theorem d_M_most_1 : decode prog_10_method_52_code 1 = .ok (.i2l, 1) := dd_M_most_0.2.1
theorem d_M_most_2 : decode prog_10_method_52_code 2 = .ok (.lconst 0, 1) := dd_M_most_0.2.2.1
theorem d_M_most_3 : decode prog_10_method_52_code 3 = .ok (.lconst 1, 1) := dd_M_most_0.2.2.2.1
theorem d_M_most_4 : decode prog_10_method_52_code 4 = .ok (.invokestatic 114, 3) := dd_M_most_0.2.2.2.2.1
theorem d_M_most_7 : decode prog_10_method_52_code 7 = .ok (.ifCond .ne 5, 3) := dd_M_most_0.2.2.2.2.2.1
theorem d_M_most_10 : decode prog_10_method_52_code 10 = .ok (.iconst (-1), 1) := dd_M_most_0.2.2.2.2.2.2.1
theorem d_M_most_11 : decode prog_10_method_52_code 11 = .ok (.ireturn, 1) := dd_M_most_0.2.2.2.2.2.2.2.1
theorem d_M_most_12 : decode prog_10_method_52_code 12 = .ok (.bipush (-4), 2) := dd_M_most_0.2.2.2.2.2.2.2.2.1
theorem d_M_most_14 : decode prog_10_method_52_code 14 = .ok (.istore_n 2, 1) := dd_M_most_0.2.2.2.2.2.2.2.2.2.1
theorem d_M_most_15 : decode prog_10_method_52_code 15 = .ok (.iconst 0, 1) := dd_M_most_0.2.2.2.2.2.2.2.2.2.2.1
theorem d_M_most_16 : decode prog_10_method_52_code 16 = .ok (.istore_n 3, 1) := dd_M_most_0.2.2.2.2.2.2.2.2.2.2.2.1
theorem d_M_most_17 : decode prog_10_method_52_code 17 = .ok (.iconst 0, 1) := dd_M_most_0.2.2.2.2.2.2.2.2.2.2.2.2.1
theorem d_M_most_18 : decode prog_10_method_52_code 18 = .ok (.istore 4, 2) := dd_M_most_0.2.2.2.2.2.2.2.2.2.2.2.2.2.1
theorem d_M_most_20 : decode prog_10_method_52_code 20 = .ok (.iload 4, 2) := dd_M_most_0.2.2.2.2.2.2.2.2.2.2.2.2.2.2.1
theorem d_M_most_22 : decode prog_10_method_52_code 22 = .ok (.aload_n 0, 1) := dd_M_most_0.2.2.2.2.2.2.2.2.2.2.2.2.2.2.2.1
theorem d_M_most_23 : decode prog_10_method_52_code 23 = .ok (.getfield 106, 3) := dd_M_most_0.2.2.2.2.2.2.2.2.2.2.2.2.2.2.2.2.1
theorem d_M_most_26 : decode prog_10_method_52_code 26 = .ok (.if_icmp .ge 67, 3) := dd_M_most_0.2.2.2.2.2.2.2.2.2.2.2.2.2.2.2.2.2.1
theorem d_M_most_29 : decode prog_10_method_52_code 29 = .ok (.aload_n 0, 1) := dd_M_most_0.2.2.2.2.2.2.2.2.2.2.2.2.2.2.2.2.2.2.1
theorem d_M_most_30 : decode prog_10_method_52_code 30 = .ok (.iload 4, 2) := dd_M_most_0.2.2.2.2.2.2.2.2.2.2.2.2.2.2.2.2.2.2.2.1
theorem d_M_most_32 : decode prog_10_method_52_code 32 = .ok (.invokevirtual 191, 3) := dd_M_most_0.2.2.2.2.2.2.2.2.2.2.2.2.2.2.2.2.2.2.2.2.1
theorem d_M_most_35 : decode prog_10_method_52_code 35 = .ok (.ifCond .eq 23, 3) := dd_M_most_0.2.2.2.2.2.2.2.2.2.2.2.2.2.2.2.2.2.2.2.2.2.1
theorem d_M_most_38 : decode prog_10_method_52_code 38 = .ok (.aload_n 0, 1) := dd_M_most_0.2.2.2.2.2.2.2.2.2.2.2.2.2.2.2.2.2.2.2.2.2.2.1
theorem d_M_most_39 : decode prog_10_method_52_code 39 = .ok (.iload 4, 2) := dd_M_most_0.2.2.2.2.2.2.2.2.2.2.2.2.2.2.2.2.2.2.2.2.2.2.2
set_option maxRecDepth 100000 in
theorem dd_M_most_41 : (decode prog_10_method_52_code 41 = .ok (.invokevirtual 207, 3)) ∧ (decode prog_10_method_52_code 44 = .ok (.aload_n 0, 1)) ∧ (decode prog_10_method_52_code 45 = .ok (.getfield 7, 3)) ∧ (decode prog_10_method_52_code 48 = .ok (.bipush 10, 2)) ∧ (decode prog_10_method_52_code 50 = .ok (.iaload, 1)) ∧ (decode prog_10_method_52_code 51 = .ok (.iand, 1)) ∧ (decode prog_10_method_52_code 52 = .ok (.invokestatic 237, 3)) ∧ (decode prog_10_method_52_code 55 = .ok (.goto 4, 3)) ∧ (decode prog_10_method_52_code 58 = .ok (.iconst 0, 1)) ∧ (decode prog_10_method_52_code 59 = .ok (.istore 5, 2)) ∧ (decode prog_10_method_52_code 61 = .ok (.iload 5, 2)) ∧ (decode prog_10_method_52_code 63 = .ok (.iload_n 3, 1)) ∧ (decode prog_10_method_52_code 64 = .ok (.if_icmp .le 8, 3)) ∧ (decode prog_10_method_52_code 67 = .ok (.iload 4, 2)) ∧ (decode prog_10_method_52_code 69 = .ok (.goto 4, 3)) ∧ (decode prog_10_method_52_code 72 = .ok (.iload_n 2, 1)) ∧ (decode prog_10_method_52_code 73 = .ok (.istore_n 2, 1)) ∧ (decode prog_10_method_52_code 74 = .ok (.iload 5, 2)) ∧ (decode prog_10_method_52_code 76 = .ok (.iload_n 3, 1)) ∧ (decode prog_10_method_52_code 77 = .ok (.if_icmp .le 8, 3)) ∧ (decode prog_10_method_52_code 80 = .ok (.iload 5, 2)) ∧ (decode prog_10_method_52_code 82 = .ok (.goto 4, 3)) ∧ (decode prog_10_method_52_code 85 = .ok (.iload_n 3, 1)) ∧ (decode prog_10_method_52_code 86 = .ok (.istore_n 3, 1)) := by
  have h : List.drop 41 prog_10_method_52_code.data.toList = 0xb6 :: _ := rfl
  refine ⟨zq_k_u2 182 (fun z => .invokevirtual z) 207 h rfl (zq_o_182 _) (by decide +kernel), ?_⟩
  replace h := zq_nx3 (q := 44) h rfl
  refine ⟨zq_k_n 42 h rfl (zq_o_42 _), ?_⟩
  replace h := zq_nx1 (q := 45) h rfl
  refine ⟨zq_k_u2 180 (fun z => .getfield z) 7 h rfl (zq_o_180 _) (by decide +kernel), ?_⟩
  replace h := zq_nx3 (q := 48) h rfl
  refine ⟨zq_k_s1 16 (fun z => .bipush z) 10 h rfl (zq_o_16 _) (by decide +kernel), ?_⟩
  replace h := zq_nx2 (q := 50) h rfl
  refine ⟨zq_k_n 46 h rfl (zq_o_46 _), ?_⟩
  replace h := zq_nx1 (q := 51) h rfl
  refine ⟨zq_k_n 126 h rfl (zq_o_126 _), ?_⟩
  replace h := zq_nx1 (q := 52) h rfl
  refine ⟨zq_k_u2 184 (fun z => .invokestatic z) 237 h rfl (zq_o_184 _) (by decide +kernel), ?_⟩
  replace h := zq_nx3 (q := 55) h rfl
  refine ⟨zq_k_s2 167 (fun z => .goto z) 4 h rfl (zq_o_167 _) (by decide +kernel), ?_⟩
  replace h := zq_nx3 (q := 58) h rfl
  refine ⟨zq_k_n 3 h rfl (zq_o_3 _), ?_⟩
  replace h := zq_nx1 (q := 59) h rfl
  refine ⟨zq_k_u1 54 (fun z => .istore z) 5 h rfl (zq_o_54 _) (by decide +kernel), ?_⟩
  replace h := zq_nx2 (q := 61) h rfl
  refine ⟨zq_k_u1 21 (fun z => .iload z) 5 h rfl (zq_o_21 _) (by decide +kernel), ?_⟩
  replace h := zq_nx2 (q := 63) h rfl
  refine ⟨zq_k_n 29 h rfl (zq_o_29 _), ?_⟩
  replace h := zq_nx1 (q := 64) h rfl
  refine ⟨zq_k_s2 164 (fun z => .if_icmp .le z) 8 h rfl (zq_o_164 _) (by decide +kernel), ?_⟩
  replace h := zq_nx3 (q := 67) h rfl
  refine ⟨zq_k_u1 21 (fun z => .iload z) 4 h rfl (zq_o_21 _) (by decide +kernel), ?_⟩
  replace h := zq_nx2 (q := 69) h rfl
  refine ⟨zq_k_s2 167 (fun z => .goto z) 4 h rfl (zq_o_167 _) (by decide +kernel), ?_⟩
  replace h := zq_nx3 (q := 72) h rfl
  refine ⟨zq_k_n 28 h rfl (zq_o_28 _), ?_⟩
  replace h := zq_nx1 (q := 73) h rfl
  refine ⟨zq_k_n 61 h rfl (zq_o_61 _), ?_⟩
  replace h := zq_nx1 (q := 74) h rfl
  refine ⟨zq_k_u1 21 (fun z => .iload z) 5 h rfl (zq_o_21 _) (by decide +kernel), ?_⟩
  replace h := zq_nx2 (q := 76) h rfl
  refine ⟨zq_k_n 29 h rfl (zq_o_29 _), ?_⟩
  replace h := zq_nx1 (q := 77) h rfl
  refine ⟨zq_k_s2 164 (fun z => .if_icmp .le z) 8 h rfl (zq_o_164 _) (by decide +kernel), ?_⟩
  replace h := zq_nx3 (q := 80) h rfl
  refine ⟨zq_k_u1 21 (fun z => .iload z) 5 h rfl (zq_o_21 _) (by decide +kernel), ?_⟩
  replace h := zq_nx2 (q := 82) h rfl
  refine ⟨zq_k_s2 167 (fun z => .goto z) 4 h rfl (zq_o_167 _) (by decide +kernel), ?_⟩
  replace h := zq_nx3 (q := 85) h rfl
  refine ⟨zq_k_n 29 h rfl (zq_o_29 _), ?_⟩
  replace h := zq_nx1 (q := 86) h rfl
  exact zq_k_n 62 h rfl (zq_o_62 _)
theorem d_M_most_41 : decode prog_10_method_52_code 41 = .ok (.invokevirtual 207, 3) := dd_M_most_41.1
theorem d_M_most_44 : decode prog_10_method_52_code 44 = .ok (.aload_n 0, 1) := dd_M_most_41.2.1
theorem d_M_most_45 : decode prog_10_method_52_code 45 = .ok (.getfield 7, 3) := dd_M_most_41.2.2.1
theorem d_M_most_48 : decode prog_10_method_52_code 48 = .ok (.bipush 10, 2) := dd_M_most_41.2.2.2.1
theorem d_M_most_50 : decode prog_10_method_52_code 50 = .ok (.iaload, 1) := dd_M_most_41.2.2.2.2.1
theorem d_M_most_51 : decode prog_10_method_52_code 51 = .ok (.iand, 1) := dd_M_most_41.2.2.2.2.2.1
theorem d_M_most_52 : decode prog_10_method_52_code 52 = .ok (.invokestatic 237, 3) := dd_M_most_41.2.2.2.2.2.2.1
theorem d_M_most_55 : decode prog_10_method_52_code 55 = .ok (.goto 4, 3) := dd_M_most_41.2.2.2.2.2.2.2.1
theorem d_M_most_58 : decode prog_10_method_52_code 58 = .ok (.iconst 0, 1) := dd_M_most_41.2.2.2.2.2.2.2.2.1
theorem d_M_most_59 : decode prog_10_method_52_code 59 = .ok (.istore 5, 2) := dd_M_most_41.2.2.2.2.2.2.2.2.2.1
theorem d_M_most_61 : decode prog_10_method_52_code 61 = .ok (.iload 5, 2) := dd_M_most_41.2.2.2.2.2.2.2.2.2.2.1
theorem d_M_most_63 : decode prog_10_method_52_code 63 = .ok (.iload_n 3, 1) := dd_M_most_41.2.2.2.2.2.2.2.2.2.2.2.1
theorem d_M_most_64 : decode prog_10_method_52_code 64 = .ok (.if_icmp .le 8, 3) := dd_M_most_41.2.2.2.2.2.2.2.2.2.2.2.2.1
theorem d_M_most_67 : decode prog_10_method_52_code 67 = .ok (.iload 4, 2) := dd_M_most_41.2.2.2.2.2.2.2.2.2.2.2.2.2.1
theorem d_M_most_69 : decode prog_10_method_52_code 69 = .ok (.goto 4, 3) := dd_M_most_41.2.2.2.2.2.2.2.2.2.2.2.2.2.2.1
theorem d_M_most_72 : decode prog_10_method_52_code 72 = .ok (.iload_n 2, 1) := dd_M_most_41.2.2.2.2.2.2.2.2.2.2.2.2.2.2.2.1
theorem d_M_most_73 : decode prog_10_method_52_code 73 = .ok (.istore_n 2, 1) := dd_M_most_41.2.2.2.2.2.2.2.2.2.2.2.2.2.2.2.2.1
theorem d_M_most_74 : decode prog_10_method_52_code 74 = .ok (.iload 5, 2) := dd_M_most_41.2.2.2.2.2.2.2.2.2.2.2.2.2.2.2.2.2.1
theorem d_M_most_76 : decode prog_10_method_52_code 76 = .ok (.iload_n 3, 1) := dd_M_most_41.2.2.2.2.2.2.2.2.2.2.2.2.2.2.2.2.2.2.1
theorem d_M_most_77 : decode prog_10_method_52_code 77 = .ok (.if_icmp .le 8, 3) := dd_M_most_41.2.2.2.2.2.2.2.2.2.2.2.2.2.2.2.2.2.2.2.1
theorem d_M_most_80 : decode prog_10_method_52_code 80 = .ok (.iload 5, 2) := dd_M_most_41.2.2.2.2.2.2.2.2.2.2.2.2.2.2.2.2.2.2.2.2.1
theorem d_M_most_82 : decode prog_10_method_52_code 82 = .ok (.goto 4, 3) := dd_M_most_41.2.2.2.2.2.2.2.2.2.2.2.2.2.2.2.2.2.2.2.2.2.1
theorem d_M_most_85 : decode prog_10_method_52_code 85 = .ok (.iload_n 3, 1) := dd_M_most_41.2.2.2.2.2.2.2.2.2.2.2.2.2.2.2.2.2.2.2.2.2.2.1
theorem d_M_most_86 : decode prog_10_method_52_code 86 = .ok (.istore_n 3, 1) := dd_M_most_41.2.2.2.2.2.2.2.2.2.2.2.2.2.2.2.2.2.2.2.2.2.2.2
set_option maxRecDepth 100000 in
theorem dd_M_most_87 : (decode prog_10_method_52_code 87 = .ok (.iinc 4 1, 3)) ∧ (decode prog_10_method_52_code 90 = .ok (.goto (-70), 3)) ∧ (decode prog_10_method_52_code 93 = .ok (.iload_n 2, 1)) ∧ (decode prog_10_method_52_code 94 = .ok (.bipush (-4), 2)) ∧ (decode prog_10_method_52_code 96 = .ok (.if_icmp .ne 8, 3)) ∧ (decode prog_10_method_52_code 99 = .ok (.bipush (-4), 2)) ∧ (decode prog_10_method_52_code 101 = .ok (.goto 12, 3)) ∧ (decode prog_10_method_52_code 104 = .ok (.iload_n 1, 1)) ∧ (decode prog_10_method_52_code 105 = .ok (.ifCond .ne 7, 3)) ∧ (decode prog_10_method_52_code 108 = .ok (.iload_n 2, 1)) ∧ (decode prog_10_method_52_code 109 = .ok (.goto 4, 3)) ∧ (decode prog_10_method_52_code 112 = .ok (.iload_n 3, 1)) ∧ (decode prog_10_method_52_code 113 = .ok (.ireturn, 1)) := by
  have h : List.drop 87 prog_10_method_52_code.data.toList = 0x84 :: _ := rfl
  refine ⟨zq_k_iinc 4 1 h rfl (zq_o_132 _) (by decide +kernel) (by decide +kernel), ?_⟩
  replace h := zq_nx3 (q := 90) h rfl
  refine ⟨zq_k_s2 167 (fun z => .goto z) (-70) h rfl (zq_o_167 _) (by decide +kernel), ?_⟩
  replace h := zq_nx3 (q := 93) h rfl
  refine ⟨zq_k_n 28 h rfl (zq_o_28 _), ?_⟩
  replace h := zq_nx1 (q := 94) h rfl
  refine ⟨zq_k_s1 16 (fun z => .bipush z) (-4) h rfl (zq_o_16 _) (by decide +kernel), ?_⟩
  replace h := zq_nx2 (q := 96) h rfl
  refine ⟨zq_k_s2 160 (fun z => .if_icmp .ne z) 8 h rfl (zq_o_160 _) (by decide +kernel), ?_⟩
  replace h := zq_nx3 (q := 99) h rfl
  refine ⟨zq_k_s1 16 (fun z => .bipush z) (-4) h rfl (zq_o_16 _) (by decide +kernel), ?_⟩
  replace h := zq_nx2 (q := 101) h rfl
  refine ⟨zq_k_s2 167 (fun z => .goto z) 12 h rfl (zq_o_167 _) (by decide +kernel), ?_⟩
  replace h := zq_nx3 (q := 104) h rfl
  refine ⟨zq_k_n 27 h rfl (zq_o_27 _), ?_⟩
  replace h := zq_nx1 (q := 105) h rfl
  refine ⟨zq_k_s2 154 (fun z => .ifCond .ne z) 7 h rfl (zq_o_154 _) (by decide +kernel), ?_⟩
  replace h := zq_nx3 (q := 108) h rfl
  refine ⟨zq_k_n 28 h rfl (zq_o_28 _), ?_⟩
  replace h := zq_nx1 (q := 109) h rfl
  refine ⟨zq_k_s2 167 (fun z => .goto z) 4 h rfl (zq_o_167 _) (by decide +kernel), ?_⟩
  replace h := zq_nx3 (q := 112) h rfl
  refine ⟨zq_k_n 29 h rfl (zq_o_29 _), ?_⟩
  replace h := zq_nx1 (q := 113) h rfl
  exact zq_k_n 172 h rfl (zq_o_172 _)
theorem d_M_most_87 : decode prog_10_method_52_code 87 = .ok (.iinc 4 1, 3) := dd_M_most_87.1
theorem d_M_most_90 : decode prog_10_method_52_code 90 = .ok (.goto (-70), 3) := dd_M_most_87.2.1
theorem d_M_most_93 : decode prog_10_method_52_code 93 = .ok (.iload_n 2, 1) := dd_M_most_87.2.2.1
theorem d_M_most_94 : decode prog_10_method_52_code 94 = .ok (.bipush (-4), 2) := dd_M_most_87.2.2.2.1
theorem d_M_most_96 : decode prog_10_method_52_code 96 = .ok (.if_icmp .ne 8, 3) := dd_M_most_87.2.2.2.2.1
theorem d_M_most_99 : decode prog_10_method_52_code 99 = .ok (.bipush (-4), 2) := dd_M_most_87.2.2.2.2.2.1
theorem d_M_most_101 : decode prog_10_method_52_code 101 = .ok (.goto 12, 3) := dd_M_most_87.2.2.2.2.2.2.1
theorem d_M_most_104 : decode prog_10_method_52_code 104 = .ok (.iload_n 1, 1) := dd_M_most_87.2.2.2.2.2.2.2.1
theorem d_M_most_105 : decode prog_10_method_52_code 105 = .ok (.ifCond .ne 7, 3) := dd_M_most_87.2.2.2.2.2.2.2.2.1
theorem d_M_most_108 : decode prog_10_method_52_code 108 = .ok (.iload_n 2, 1) := dd_M_most_87.2.2.2.2.2.2.2.2.2.1
theorem d_M_most_109 : decode prog_10_method_52_code 109 = .ok (.goto 4, 3) := dd_M_most_87.2.2.2.2.2.2.2.2.2.2.1
theorem d_M_most_112 : decode prog_10_method_52_code 112 = .ok (.iload_n 3, 1) := dd_M_most_87.2.2.2.2.2.2.2.2.2.2.2.1
theorem d_M_most_113 : decode prog_10_method_52_code 113 = .ok (.ireturn, 1) := dd_M_most_87.2.2.2.2.2.2.2.2.2.2.2.2
def f_M_most_86 (rec20 : Nat → Int32 → Int32 → Int32 → Int32 → mH → Option (Int32 × mH)) (b0 : Nat) (b1 : Int32) (b2 : Int32) (b4 : Int32) (s0 : Int32) (h : mH) : Option (Int32 × mH) :=
  rec20 b0 b1 b2 s0 (b4 + (1 : Int32)) h
set_option maxRecDepth 20000 in
theorem t_M_most_86 {sc : Nat × (Nat → Int32)} (rec20 : Nat → Int32 → Int32 → Int32 → Int32 → mH → Option (Int32 × mH)) (hrec20 : ∀ (b0 : Nat) (b1 : Int32) (b2 : Int32) (b3 : Int32) (b4 : Int32) (h : mH) (r : Int32) (h' : mH), rec20 b0 b1 b2 b3 b4 h = some (r, h') → G sc y_M_most prog_10_method_52_code 6 (some .int) 1 25 20 [(0, .ref b0), (1, .int b1), (2, .int b2), (3, .int b3), (4, .int b4)] [] h (some (.int r)) h') (b0 : Nat) (b1 : Int32) (b2 : Int32) (b4 : Int32) (s0 : Int32) (h : mH) (r : Int32) (h' : mH) (hf : f_M_most_86 rec20 b0 b1 b2 b4 s0 h = some (r, h')) : G sc y_M_most prog_10_method_52_code 6 (some .int) 1 25 86 [(0, .ref b0), (1, .int b1), (2, .int b2), (4, .int b4)] [.int s0] h (some (.int r)) h' := by
  unfold f_M_most_86 at hf
  refine g_istore_n (pc := 86) [(3, .int s0), (0, .ref b0), (1, .int b1), (2, .int b2), (4, .int b4)] d_M_most_86 rfl (Nat.le_of_ble_eq_true rfl) rfl ?_
  refine g_iinc (pc := 87) 4 (b4 + (1 : Int32)) [(4, .int (b4 + (1 : Int32))), (3, .int s0), (0, .ref b0), (1, .int b1), (2, .int b2)] d_M_most_87 rfl rfl (Nat.le_of_ble_eq_true rfl) rfl ?_
  refine g_goto (pc := 90) 20 d_M_most_90 (by decide) ?_
  refine g_lv [2, 3, 4, 1, 0] rfl ?_
  exact hrec20 _ _ _ _ _ _ _ _  hf
def f_M_most_73 (rec20 : Nat → Int32 → Int32 → Int32 → Int32 → mH → Option (Int32 × mH)) (b0 : Nat) (b1 : Int32) (b3 : Int32) (b4 : Int32) (b5 : Int32) (s0 : Int32) (h : mH) : Option (Int32 × mH) :=
  if b5 ≤ b3 then
    f_M_most_86 rec20 b0 b1 s0 b4 b3 h
  else
    f_M_most_86 rec20 b0 b1 s0 b4 b5 h
set_option maxRecDepth 20000 in
theorem t_M_most_73 {sc : Nat × (Nat → Int32)} (rec20 : Nat → Int32 → Int32 → Int32 → Int32 → mH → Option (Int32 × mH)) (hrec20 : ∀ (b0 : Nat) (b1 : Int32) (b2 : Int32) (b3 : Int32) (b4 : Int32) (h : mH) (r : Int32) (h' : mH), rec20 b0 b1 b2 b3 b4 h = some (r, h') → G sc y_M_most prog_10_method_52_code 6 (some .int) 1 25 20 [(0, .ref b0), (1, .int b1), (2, .int b2), (3, .int b3), (4, .int b4)] [] h (some (.int r)) h') (b0 : Nat) (b1 : Int32) (b3 : Int32) (b4 : Int32) (b5 : Int32) (s0 : Int32) (h : mH) (r : Int32) (h' : mH) (hf : f_M_most_73 rec20 b0 b1 b3 b4 b5 s0 h = some (r, h')) : G sc y_M_most prog_10_method_52_code 6 (some .int) 1 25 73 [(0, .ref b0), (1, .int b1), (3, .int b3), (4, .int b4), (5, .int b5)] [.int s0] h (some (.int r)) h' := by
  unfold f_M_most_73 at hf
  refine g_istore_n (pc := 73) [(2, .int s0), (0, .ref b0), (1, .int b1), (3, .int b3), (4, .int b4), (5, .int b5)] d_M_most_73 rfl (Nat.le_of_ble_eq_true rfl) rfl ?_
  refine g_iload (pc := 74) 5 d_M_most_74 rfl ?_
  refine g_iload_n (pc := 76) 3 d_M_most_76 rfl rfl ?_
  refine g_icmple (pc := 77) 85 d_M_most_77 (by decide) (fun c29 => ?_) (fun c29 => ?_)
  · replace hf := (if_pos c29).symm.trans hf
    refine g_iload_n (pc := 85) 3 d_M_most_85 rfl rfl ?_
    refine g_lv [1, 2, 0, 4] rfl ?_
    exact t_M_most_86 rec20 hrec20 _ _ _ _ _ _ _ _  hf
  · replace hf := (if_neg c29).symm.trans hf
    refine g_iload (pc := 80) 5 d_M_most_80 rfl ?_
    refine g_goto (pc := 82) 86 d_M_most_82 (by decide) ?_
    refine g_lv [1, 2, 0, 4] rfl ?_
    exact t_M_most_86 rec20 hrec20 _ _ _ _ _ _ _ _  hf
def f_M_most_59 (rec20 : Nat → Int32 → Int32 → Int32 → Int32 → mH → Option (Int32 × mH)) (b0 : Nat) (b1 : Int32) (b2 : Int32) (b3 : Int32) (b4 : Int32) (s0 : Int32) (h : mH) : Option (Int32 × mH) :=
  if s0 ≤ b3 then
    f_M_most_73 rec20 b0 b1 b3 b4 s0 b2 h
  else
    f_M_most_73 rec20 b0 b1 b3 b4 s0 b4 h
set_option maxRecDepth 20000 in
theorem t_M_most_59 {sc : Nat × (Nat → Int32)} (rec20 : Nat → Int32 → Int32 → Int32 → Int32 → mH → Option (Int32 × mH)) (hrec20 : ∀ (b0 : Nat) (b1 : Int32) (b2 : Int32) (b3 : Int32) (b4 : Int32) (h : mH) (r : Int32) (h' : mH), rec20 b0 b1 b2 b3 b4 h = some (r, h') → G sc y_M_most prog_10_method_52_code 6 (some .int) 1 25 20 [(0, .ref b0), (1, .int b1), (2, .int b2), (3, .int b3), (4, .int b4)] [] h (some (.int r)) h') (b0 : Nat) (b1 : Int32) (b2 : Int32) (b3 : Int32) (b4 : Int32) (s0 : Int32) (h : mH) (r : Int32) (h' : mH) (hf : f_M_most_59 rec20 b0 b1 b2 b3 b4 s0 h = some (r, h')) : G sc y_M_most prog_10_method_52_code 6 (some .int) 1 25 59 [(0, .ref b0), (1, .int b1), (2, .int b2), (3, .int b3), (4, .int b4)] [.int s0] h (some (.int r)) h' := by
  unfold f_M_most_59 at hf
  refine g_istore (pc := 59) [(5, .int s0), (0, .ref b0), (1, .int b1), (2, .int b2), (3, .int b3), (4, .int b4)] d_M_most_59 (Nat.le_of_ble_eq_true rfl) rfl ?_
  refine g_iload (pc := 61) 0 d_M_most_61 rfl ?_
  refine g_iload_n (pc := 63) 4 d_M_most_63 rfl rfl ?_
  refine g_icmple (pc := 64) 72 d_M_most_64 (by decide) (fun c28 => ?_) (fun c28 => ?_)
  · replace hf := (if_pos c28).symm.trans hf
    refine g_iload_n (pc := 72) 3 d_M_most_72 rfl rfl ?_
    refine g_lv [1, 2, 4, 5, 0] rfl ?_
    exact t_M_most_73 rec20 hrec20 _ _ _ _ _ _ _ _ _  hf
  · replace hf := (if_neg c28).symm.trans hf
    refine g_iload (pc := 67) 5 d_M_most_67 rfl ?_
    refine g_goto (pc := 69) 73 d_M_most_69 (by decide) ?_
    refine g_lv [1, 2, 4, 5, 0] rfl ?_
    exact t_M_most_73 rec20 hrec20 _ _ _ _ _ _ _ _ _  hf
def f_M_most_20b (rec20 : Nat → Int32 → Int32 → Int32 → Int32 → mH → Option (Int32 × mH)) (b0 : Nat) (b1 : Int32) (b2 : Int32) (b3 : Int32) (b4 : Int32) (h : mH) : Option (Int32 × mH) :=
  bd1 (gI h b0 8 2) fun x5 =>
  if x5 ≤ b4 then
    if b2 = ((-4) : Int32) then
      some (((-4) : Int32), h)
    else
      if b1 = 0 then
        some (b2, h)
      else
        some (b3, h)
  else
    bd1 (kC h b0 8) fun _ =>
    bd2 (f_M_doesStand b0 b4 h) fun x13 h11 =>
    if x13 = 0 then
      f_M_most_59 rec20 b0 b1 b2 b3 b4 (0 : Int32) h11
    else
      bd1 (kC h11 b0 8) fun _ =>
      bd2 (f_M_chainOf b0 b4 h11) fun x18 h16 =>
      bd1 (gR h16 b0 8 0) fun x19 =>
      bd1 (aI h16 0 x19 (10 : Int32)) fun x21 =>
      bd2 (f_M_bitsOf (x18 &&& x21) h16) fun x25 h23 =>
      f_M_most_59 rec20 b0 b1 b2 b3 b4 x25 h23
set_option maxRecDepth 20000 in
theorem t_M_most_20b {sc : Nat × (Nat → Int32)} (rec20 : Nat → Int32 → Int32 → Int32 → Int32 → mH → Option (Int32 × mH)) (hrec20 : ∀ (b0 : Nat) (b1 : Int32) (b2 : Int32) (b3 : Int32) (b4 : Int32) (h : mH) (r : Int32) (h' : mH), rec20 b0 b1 b2 b3 b4 h = some (r, h') → G sc y_M_most prog_10_method_52_code 6 (some .int) 1 25 20 [(0, .ref b0), (1, .int b1), (2, .int b2), (3, .int b3), (4, .int b4)] [] h (some (.int r)) h') (b0 : Nat) (b1 : Int32) (b2 : Int32) (b3 : Int32) (b4 : Int32) (h : mH) (r : Int32) (h' : mH) (hf : f_M_most_20b rec20 b0 b1 b2 b3 b4 h = some (r, h')) : G sc y_M_most prog_10_method_52_code 6 (some .int) 1 25 20 [(0, .ref b0), (1, .int b1), (2, .int b2), (3, .int b3), (4, .int b4)] [] h (some (.int r)) h' := by
  unfold f_M_most_20b at hf
  refine g_iload (pc := 20) 4 d_M_most_20 rfl ?_
  refine g_aload_n (pc := 22) 0 d_M_most_22 rfl rfl ?_
  obtain ⟨x5, e6, hf⟩ := bd1_e hf
  refine g_get (pc := 23) (ci := 8) (kk := 2) d_M_most_23 rfl in_M (by decide) wd_940 (gI_spec e6) ?_
  refine g_icmpge (pc := 26) 93 d_M_most_26 (by decide) (fun c27 => ?_) (fun c27 => ?_)
  · replace hf := (if_pos c27).symm.trans hf
    refine g_iload_n (pc := 93) 2 d_M_most_93 rfl rfl ?_
    refine g_bipush (pc := 94) ((-4) : Int32) d_M_most_94 (by decide) ?_
    refine g_icmpne (pc := 96) 104 d_M_most_96 (by decide) (fun c8 => ?_) (fun c8 => ?_)
    · replace hf := (if_neg c8).symm.trans hf
      refine g_iload_n (pc := 104) 1 d_M_most_104 rfl rfl ?_
      refine g_ifne (pc := 105) 112 d_M_most_105 (by decide) (fun c7 => ?_) (fun c7 => ?_)
      · replace hf := (if_neg c7).symm.trans hf
        refine g_iload_n (pc := 112) 3 d_M_most_112 rfl rfl ?_
        obtain ⟨rfl, rfl⟩ := ret2 hf
        exact g_iret (pc := 113) rfl d_M_most_113
      · replace hf := (if_pos c7).symm.trans hf
        refine g_iload_n (pc := 108) 2 d_M_most_108 rfl rfl ?_
        refine g_goto (pc := 109) 113 d_M_most_109 (by decide) ?_
        obtain ⟨rfl, rfl⟩ := ret2 hf
        exact g_iret (pc := 113) rfl d_M_most_113
    · replace hf := (if_pos c8).symm.trans hf
      refine g_bipush (pc := 99) ((-4) : Int32) d_M_most_99 (by decide) ?_
      refine g_goto (pc := 101) 113 d_M_most_101 (by decide) ?_
      obtain ⟨rfl, rfl⟩ := ret2 hf
      exact g_iret (pc := 113) rfl d_M_most_113
  · replace hf := (if_neg c27).symm.trans hf
    refine g_aload_n (pc := 29) 0 d_M_most_29 rfl rfl ?_
    refine g_iload (pc := 30) 4 d_M_most_30 rfl ?_
    obtain ⟨u10, e9, hf⟩ := bd1_e hf
    obtain ⟨x13, h11, e12, hf⟩ := bd2_e hf
    refine g_callV (pc := 32) (ci := 8) [.int b4] (site_of si_M_doesStand (by decide) (by decide)) wd_1144 wd_1146 wp_46 d_M_most_32 rfl e9 (Nat.le_of_ble_eq_true rfl) (fun z => absurd z (by decide)) (fun z => absurd z (by decide)) (fun z => absurd z (by decide)) (c_M_doesStand e12) rfl ?_
    refine g_st [.int x13] rfl ?_
    refine g_ifeq (pc := 35) 58 d_M_most_35 (by decide) (fun c26 => ?_) (fun c26 => ?_)
    · replace hf := (if_pos c26).symm.trans hf
      refine g_iconst (pc := 58) (0 : Int32) d_M_most_58 (by decide) ?_
      refine g_lv [0, 1, 2, 3, 4] rfl ?_
      exact t_M_most_59 rec20 hrec20 _ _ _ _ _ _ _ _ _  hf
    · replace hf := (if_neg c26).symm.trans hf
      refine g_aload_n (pc := 38) 0 d_M_most_38 rfl rfl ?_
      refine g_iload (pc := 39) 4 d_M_most_39 rfl ?_
      obtain ⟨u15, e14, hf⟩ := bd1_e hf
      obtain ⟨x18, h16, e17, hf⟩ := bd2_e hf
      refine g_callV (pc := 41) (ci := 8) [.int b4] (site_of si_M_chainOf (by decide) (by decide)) wd_1152 wd_1154 wp_48 d_M_most_41 rfl e14 (Nat.le_of_ble_eq_true rfl) (fun z => absurd z (by decide)) (fun z => absurd z (by decide)) (fun z => absurd z (by decide)) (c_M_chainOf e17) rfl ?_
      refine g_st [.int x18] rfl ?_
      refine g_aload_n (pc := 44) 0 d_M_most_44 rfl rfl ?_
      obtain ⟨x19, e20, hf⟩ := bd1_e hf
      refine g_get (pc := 45) (ci := 8) (kk := 0) d_M_most_45 rfl in_M (by decide) wd_938 (gR_spec e20) ?_
      refine g_bipush (pc := 48) (10 : Int32) d_M_most_48 (by decide) ?_
      obtain ⟨x21, e22, hf⟩ := bd1_e hf
      refine g_iald (pc := 50) d_M_most_50 e22 ?_
      refine g_iand (pc := 51) d_M_most_51 ?_
      obtain ⟨x25, h23, e24, hf⟩ := bd2_e hf
      refine g_callS (pc := 52) [.int (x18 &&& x21)] (site_of si_M_bitsOf (by decide) (by decide)) wd_1230 wd_1231 d_M_most_52 (Nat.le_of_ble_eq_true rfl) (fun z => absurd z (by decide)) (fun z => absurd z (by decide)) (fun z => absurd z (by decide)) (c_M_bitsOf e24) rfl ?_
      refine g_st [.int x25] rfl ?_
      refine g_goto (pc := 55) 59 d_M_most_55 (by decide) ?_
      refine g_lv [0, 1, 2, 3, 4] rfl ?_
      exact t_M_most_59 rec20 hrec20 _ _ _ _ _ _ _ _ _  hf
def f_M_most_20  : Nat → Nat → Int32 → Int32 → Int32 → Int32 → mH → Option (Int32 × mH)
  | 0 => fun _ _ _ _ _ _ => none
  | n + 1 => f_M_most_20b  (f_M_most_20  n)
theorem t_M_most_20 {sc : Nat × (Nat → Int32)}  : ∀ (n : Nat) (b0 : Nat) (b1 : Int32) (b2 : Int32) (b3 : Int32) (b4 : Int32) (h : mH) (r : Int32) (h' : mH) (hf : f_M_most_20  n b0 b1 b2 b3 b4 h = some (r, h')), G sc y_M_most prog_10_method_52_code 6 (some .int) 1 25 20 [(0, .ref b0), (1, .int b1), (2, .int b2), (3, .int b3), (4, .int b4)] [] h (some (.int r)) h'
  | 0, _, _, _, _, _, _, _, _, hf => by cases hf
  | n + 1, _, _, _, _, _, _, _, _, hf => t_M_most_20b  (f_M_most_20  n) (t_M_most_20  n) _ _ _ _ _ _ _ _ hf
def f_M_most_0  (a0 : Nat) (a1 : Int32) (h : mH) : Option (Int32 × mH) :=
  bd2 (f_M_in a1.toInt64 (0 : Int64) (1 : Int64) h) fun x3 h1 =>
  if x3 = 0 then
    some (((-1) : Int32), h1)
  else
    f_M_most_20  FU a0 a1 ((-4) : Int32) (0 : Int32) (0 : Int32) h1
set_option maxRecDepth 20000 in
theorem t_M_most_0 {sc : Nat × (Nat → Int32)}  (a0 : Nat) (a1 : Int32) (h : mH) (r : Int32) (h' : mH) (hf : f_M_most_0  a0 a1 h = some (r, h')) : G sc y_M_most prog_10_method_52_code 6 (some .int) 1 25 0 [(0, .ref a0), (1, .int a1)] [] h (some (.int r)) h' := by
  unfold f_M_most_0 at hf
  refine g_iload_n (pc := 0) 1 d_M_most_0 rfl rfl ?_
  refine g_i2l (pc := 1) d_M_most_1 ?_
  refine g_lconst (pc := 2) (0 : Int64) d_M_most_2 (by decide) ?_
  refine g_lconst (pc := 3) (1 : Int64) d_M_most_3 (by decide) ?_
  obtain ⟨x3, h1, e2, hf⟩ := bd2_e hf
  refine g_callS (pc := 4) [.long a1.toInt64, .long (0 : Int64), .long (1 : Int64)] (site_of si_M_in (by decide) (by decide)) wd_1061 wd_1062 d_M_most_4 (Nat.le_of_ble_eq_true rfl) (fun z => absurd z (by decide)) (fun z => absurd z (by decide)) (fun z => absurd z (by decide)) (c_M_in e2) rfl ?_
  refine g_st [.int x3] rfl ?_
  refine g_ifne (pc := 7) 12 d_M_most_7 (by decide) (fun c4 => ?_) (fun c4 => ?_)
  · replace hf := (if_neg c4).symm.trans hf
    refine g_bipush (pc := 12) ((-4) : Int32) d_M_most_12 (by decide) ?_
    refine g_istore_n (pc := 14) [(2, .int ((-4) : Int32)), (0, .ref a0), (1, .int a1)] d_M_most_14 rfl (Nat.le_of_ble_eq_true rfl) rfl ?_
    refine g_iconst (pc := 15) (0 : Int32) d_M_most_15 (by decide) ?_
    refine g_istore_n (pc := 16) [(3, .int (0 : Int32)), (2, .int ((-4) : Int32)), (0, .ref a0), (1, .int a1)] d_M_most_16 rfl (Nat.le_of_ble_eq_true rfl) rfl ?_
    refine g_iconst (pc := 17) (0 : Int32) d_M_most_17 (by decide) ?_
    refine g_istore (pc := 18) [(4, .int (0 : Int32)), (3, .int (0 : Int32)), (2, .int ((-4) : Int32)), (0, .ref a0), (1, .int a1)] d_M_most_18 (Nat.le_of_ble_eq_true rfl) rfl ?_
    refine g_lv [3, 4, 2, 1, 0] rfl ?_
    exact t_M_most_20  FU _ _ _ _ _ _ _ _  hf
  · replace hf := (if_pos c4).symm.trans hf
    refine g_iconst (pc := 10) ((-1) : Int32) d_M_most_10 (by decide) ?_
    obtain ⟨rfl, rfl⟩ := ret2 hf
    exact g_iret (pc := 11) rfl d_M_most_11
def f_M_most (a0 : Nat) (a1 : Int32) (h : mH) : Option (Int32 × mH) := f_M_most_0 a0 a1 h
theorem c_M_most {sc : Nat × (Nat → Int32)} {a0 : Nat} {a1 : Int32} {h : mH} {r : Int32} {h' : mH} (hf : f_M_most a0 a1 h = some (r, h')) : MM sc y_M_most prog_10_method_52_code 6 (some .int) 1 25 [.ref a0, .int a1] h (some (.int r)) h' :=
  mm_of_G (by decide) (Nat.le_of_ble_eq_true rfl) (t_M_most_0 _ _ _ _ _ hf)
/-! M startsRota (I)V -/
set_option maxRecDepth 100000 in
theorem dd_M_startsRota_0 : (decode prog_10_method_58_code 0 = .ok (.iconst 0, 1)) ∧ (decode prog_10_method_58_code 1 = .ok (.istore_n 2, 1)) ∧ (decode prog_10_method_58_code 2 = .ok (.iload_n 2, 1)) ∧ (decode prog_10_method_58_code 3 = .ok (.aload_n 0, 1)) ∧ (decode prog_10_method_58_code 4 = .ok (.getfield 106, 3)) ∧ (decode prog_10_method_58_code 7 = .ok (.if_icmp .ge 33, 3)) ∧ (decode prog_10_method_58_code 10 = .ok (.aload_n 0, 1)) ∧ (decode prog_10_method_58_code 11 = .ok (.getfield 56, 3)) ∧ (decode prog_10_method_58_code 14 = .ok (.iload_n 2, 1)) ∧ (decode prog_10_method_58_code 15 = .ok (.iload_n 1, 1)) ∧ (decode prog_10_method_58_code 16 = .ok (.iload_n 2, 1)) ∧ (decode prog_10_method_58_code 17 = .ok (.ishr, 1)) ∧ (decode prog_10_method_58_code 18 = .ok (.iconst 1, 1)) ∧ (decode prog_10_method_58_code 19 = .ok (.iand, 1)) ∧ (decode prog_10_method_58_code 20 = .ok (.iconst 1, 1)) ∧ (decode prog_10_method_58_code 21 = .ok (.if_icmp .ne 11, 3)) ∧ (decode prog_10_method_58_code 24 = .ok (.aload_n 0, 1)) ∧ (decode prog_10_method_58_code 25 = .ok (.iload_n 2, 1)) ∧ (decode prog_10_method_58_code 26 = .ok (.invokevirtual 204, 3)) ∧ (decode prog_10_method_58_code 29 = .ok (.goto 4, 3)) ∧ (decode prog_10_method_58_code 32 = .ok (.iconst 0, 1)) ∧ (decode prog_10_method_58_code 33 = .ok (.iastore, 1)) ∧ (decode prog_10_method_58_code 34 = .ok (.iinc 2 1, 3)) ∧ (decode prog_10_method_58_code 37 = .ok (.goto (-35), 3)) := by
  have h : List.drop 0 prog_10_method_58_code.data.toList = 0x03 :: _ := rfl
  refine ⟨zq_k_n 3 h rfl (zq_o_3 _), ?_⟩
  replace h := zq_nx1 (q := 1) h rfl
  refine ⟨zq_k_n 61 h rfl (zq_o_61 _), ?_⟩
  replace h := zq_nx1 (q := 2) h rfl
  refine ⟨zq_k_n 28 h rfl (zq_o_28 _), ?_⟩
  replace h := zq_nx1 (q := 3) h rfl
  refine ⟨zq_k_n 42 h rfl (zq_o_42 _), ?_⟩
  replace h := zq_nx1 (q := 4) h rfl
  refine ⟨zq_k_u2 180 (fun z => .getfield z) 106 h rfl (zq_o_180 _) (by decide +kernel), ?_⟩
  replace h := zq_nx3 (q := 7) h rfl
  refine ⟨zq_k_s2 162 (fun z => .if_icmp .ge z) 33 h rfl (zq_o_162 _) (by decide +kernel), ?_⟩
  replace h := zq_nx3 (q := 10) h rfl
  refine ⟨zq_k_n 42 h rfl (zq_o_42 _), ?_⟩
  replace h := zq_nx1 (q := 11) h rfl
  refine ⟨zq_k_u2 180 (fun z => .getfield z) 56 h rfl (zq_o_180 _) (by decide +kernel), ?_⟩
  replace h := zq_nx3 (q := 14) h rfl
  refine ⟨zq_k_n 28 h rfl (zq_o_28 _), ?_⟩
  replace h := zq_nx1 (q := 15) h rfl
  refine ⟨zq_k_n 27 h rfl (zq_o_27 _), ?_⟩
  replace h := zq_nx1 (q := 16) h rfl
  refine ⟨zq_k_n 28 h rfl (zq_o_28 _), ?_⟩
  replace h := zq_nx1 (q := 17) h rfl
  refine ⟨zq_k_n 122 h rfl (zq_o_122 _), ?_⟩
  replace h := zq_nx1 (q := 18) h rfl
  refine ⟨zq_k_n 4 h rfl (zq_o_4 _), ?_⟩
  replace h := zq_nx1 (q := 19) h rfl
  refine ⟨zq_k_n 126 h rfl (zq_o_126 _), ?_⟩
  replace h := zq_nx1 (q := 20) h rfl
  refine ⟨zq_k_n 4 h rfl (zq_o_4 _), ?_⟩
  replace h := zq_nx1 (q := 21) h rfl
  refine ⟨zq_k_s2 160 (fun z => .if_icmp .ne z) 11 h rfl (zq_o_160 _) (by decide +kernel), ?_⟩
  replace h := zq_nx3 (q := 24) h rfl
  refine ⟨zq_k_n 42 h rfl (zq_o_42 _), ?_⟩
  replace h := zq_nx1 (q := 25) h rfl
  refine ⟨zq_k_n 28 h rfl (zq_o_28 _), ?_⟩
  replace h := zq_nx1 (q := 26) h rfl
  refine ⟨zq_k_u2 182 (fun z => .invokevirtual z) 204 h rfl (zq_o_182 _) (by decide +kernel), ?_⟩
  replace h := zq_nx3 (q := 29) h rfl
  refine ⟨zq_k_s2 167 (fun z => .goto z) 4 h rfl (zq_o_167 _) (by decide +kernel), ?_⟩
  replace h := zq_nx3 (q := 32) h rfl
  refine ⟨zq_k_n 3 h rfl (zq_o_3 _), ?_⟩
  replace h := zq_nx1 (q := 33) h rfl
  refine ⟨zq_k_n 79 h rfl (zq_o_79 _), ?_⟩
  replace h := zq_nx1 (q := 34) h rfl
  refine ⟨zq_k_iinc 2 1 h rfl (zq_o_132 _) (by decide +kernel) (by decide +kernel), ?_⟩
  replace h := zq_nx3 (q := 37) h rfl
  exact zq_k_s2 167 (fun z => .goto z) (-35) h rfl (zq_o_167 _) (by decide +kernel)
theorem d_M_startsRota_0 : decode prog_10_method_58_code 0 = .ok (.iconst 0, 1) := dd_M_startsRota_0.1
theorem d_M_startsRota_1 : decode prog_10_method_58_code 1 = .ok (.istore_n 2, 1) := dd_M_startsRota_0.2.1
theorem d_M_startsRota_2 : decode prog_10_method_58_code 2 = .ok (.iload_n 2, 1) := dd_M_startsRota_0.2.2.1
theorem d_M_startsRota_3 : decode prog_10_method_58_code 3 = .ok (.aload_n 0, 1) := dd_M_startsRota_0.2.2.2.1
theorem d_M_startsRota_4 : decode prog_10_method_58_code 4 = .ok (.getfield 106, 3) := dd_M_startsRota_0.2.2.2.2.1
theorem d_M_startsRota_7 : decode prog_10_method_58_code 7 = .ok (.if_icmp .ge 33, 3) := dd_M_startsRota_0.2.2.2.2.2.1
theorem d_M_startsRota_10 : decode prog_10_method_58_code 10 = .ok (.aload_n 0, 1) := dd_M_startsRota_0.2.2.2.2.2.2.1
theorem d_M_startsRota_11 : decode prog_10_method_58_code 11 = .ok (.getfield 56, 3) := dd_M_startsRota_0.2.2.2.2.2.2.2.1
theorem d_M_startsRota_14 : decode prog_10_method_58_code 14 = .ok (.iload_n 2, 1) := dd_M_startsRota_0.2.2.2.2.2.2.2.2.1
theorem d_M_startsRota_15 : decode prog_10_method_58_code 15 = .ok (.iload_n 1, 1) := dd_M_startsRota_0.2.2.2.2.2.2.2.2.2.1
theorem d_M_startsRota_16 : decode prog_10_method_58_code 16 = .ok (.iload_n 2, 1) := dd_M_startsRota_0.2.2.2.2.2.2.2.2.2.2.1
theorem d_M_startsRota_17 : decode prog_10_method_58_code 17 = .ok (.ishr, 1) := dd_M_startsRota_0.2.2.2.2.2.2.2.2.2.2.2.1
theorem d_M_startsRota_18 : decode prog_10_method_58_code 18 = .ok (.iconst 1, 1) := dd_M_startsRota_0.2.2.2.2.2.2.2.2.2.2.2.2.1
theorem d_M_startsRota_19 : decode prog_10_method_58_code 19 = .ok (.iand, 1) := dd_M_startsRota_0.2.2.2.2.2.2.2.2.2.2.2.2.2.1
theorem d_M_startsRota_20 : decode prog_10_method_58_code 20 = .ok (.iconst 1, 1) := dd_M_startsRota_0.2.2.2.2.2.2.2.2.2.2.2.2.2.2.1
theorem d_M_startsRota_21 : decode prog_10_method_58_code 21 = .ok (.if_icmp .ne 11, 3) := dd_M_startsRota_0.2.2.2.2.2.2.2.2.2.2.2.2.2.2.2.1
theorem d_M_startsRota_24 : decode prog_10_method_58_code 24 = .ok (.aload_n 0, 1) := dd_M_startsRota_0.2.2.2.2.2.2.2.2.2.2.2.2.2.2.2.2.1
theorem d_M_startsRota_25 : decode prog_10_method_58_code 25 = .ok (.iload_n 2, 1) := dd_M_startsRota_0.2.2.2.2.2.2.2.2.2.2.2.2.2.2.2.2.2.1
theorem d_M_startsRota_26 : decode prog_10_method_58_code 26 = .ok (.invokevirtual 204, 3) := dd_M_startsRota_0.2.2.2.2.2.2.2.2.2.2.2.2.2.2.2.2.2.2.1
theorem d_M_startsRota_29 : decode prog_10_method_58_code 29 = .ok (.goto 4, 3) := dd_M_startsRota_0.2.2.2.2.2.2.2.2.2.2.2.2.2.2.2.2.2.2.2.1
theorem d_M_startsRota_32 : decode prog_10_method_58_code 32 = .ok (.iconst 0, 1) := dd_M_startsRota_0.2.2.2.2.2.2.2.2.2.2.2.2.2.2.2.2.2.2.2.2.1
theorem d_M_startsRota_33 : decode prog_10_method_58_code 33 = .ok (.iastore, 1) := dd_M_startsRota_0.2.2.2.2.2.2.2.2.2.2.2.2.2.2.2.2.2.2.2.2.2.1
theorem d_M_startsRota_34 : decode prog_10_method_58_code 34 = .ok (.iinc 2 1, 3) := dd_M_startsRota_0.2.2.2.2.2.2.2.2.2.2.2.2.2.2.2.2.2.2.2.2.2.2.1
theorem d_M_startsRota_37 : decode prog_10_method_58_code 37 = .ok (.goto (-35), 3) := dd_M_startsRota_0.2.2.2.2.2.2.2.2.2.2.2.2.2.2.2.2.2.2.2.2.2.2.2
set_option maxRecDepth 100000 in
theorem dd_M_startsRota_40 : (decode prog_10_method_58_code 40 = .ok (.iconst 0, 1)) ∧ (decode prog_10_method_58_code 41 = .ok (.istore_n 2, 1)) ∧ (decode prog_10_method_58_code 42 = .ok (.iload_n 2, 1)) ∧ (decode prog_10_method_58_code 43 = .ok (.iconst 3, 1)) ∧ (decode prog_10_method_58_code 44 = .ok (.if_icmp .ge 32, 3)) ∧ (decode prog_10_method_58_code 47 = .ok (.aload_n 0, 1)) ∧ (decode prog_10_method_58_code 48 = .ok (.getfield 59, 3)) ∧ (decode prog_10_method_58_code 51 = .ok (.iload_n 2, 1)) ∧ (decode prog_10_method_58_code 52 = .ok (.iload_n 2, 1)) ∧ (decode prog_10_method_58_code 53 = .ok (.aload_n 0, 1)) ∧ (decode prog_10_method_58_code 54 = .ok (.getfield 109, 3)) ∧ (decode prog_10_method_58_code 57 = .ok (.if_icmp .ge 11, 3)) ∧ (decode prog_10_method_58_code 60 = .ok (.aload_n 0, 1)) ∧ (decode prog_10_method_58_code 61 = .ok (.iload_n 2, 1)) ∧ (decode prog_10_method_58_code 62 = .ok (.invokevirtual 201, 3)) ∧ (decode prog_10_method_58_code 65 = .ok (.goto 4, 3)) ∧ (decode prog_10_method_58_code 68 = .ok (.iconst 0, 1)) ∧ (decode prog_10_method_58_code 69 = .ok (.iastore, 1)) ∧ (decode prog_10_method_58_code 70 = .ok (.iinc 2 1, 3)) ∧ (decode prog_10_method_58_code 73 = .ok (.goto (-31), 3)) ∧ (decode prog_10_method_58_code 76 = .ok (.return_, 1)) := by
  have h : List.drop 40 prog_10_method_58_code.data.toList = 0x03 :: _ := rfl
  refine ⟨zq_k_n 3 h rfl (zq_o_3 _), ?_⟩
  replace h := zq_nx1 (q := 41) h rfl
  refine ⟨zq_k_n 61 h rfl (zq_o_61 _), ?_⟩
  replace h := zq_nx1 (q := 42) h rfl
  refine ⟨zq_k_n 28 h rfl (zq_o_28 _), ?_⟩
  replace h := zq_nx1 (q := 43) h rfl
  refine ⟨zq_k_n 6 h rfl (zq_o_6 _), ?_⟩
  replace h := zq_nx1 (q := 44) h rfl
  refine ⟨zq_k_s2 162 (fun z => .if_icmp .ge z) 32 h rfl (zq_o_162 _) (by decide +kernel), ?_⟩
  replace h := zq_nx3 (q := 47) h rfl
  refine ⟨zq_k_n 42 h rfl (zq_o_42 _), ?_⟩
  replace h := zq_nx1 (q := 48) h rfl
  refine ⟨zq_k_u2 180 (fun z => .getfield z) 59 h rfl (zq_o_180 _) (by decide +kernel), ?_⟩
  replace h := zq_nx3 (q := 51) h rfl
  refine ⟨zq_k_n 28 h rfl (zq_o_28 _), ?_⟩
  replace h := zq_nx1 (q := 52) h rfl
  refine ⟨zq_k_n 28 h rfl (zq_o_28 _), ?_⟩
  replace h := zq_nx1 (q := 53) h rfl
  refine ⟨zq_k_n 42 h rfl (zq_o_42 _), ?_⟩
  replace h := zq_nx1 (q := 54) h rfl
  refine ⟨zq_k_u2 180 (fun z => .getfield z) 109 h rfl (zq_o_180 _) (by decide +kernel), ?_⟩
  replace h := zq_nx3 (q := 57) h rfl
  refine ⟨zq_k_s2 162 (fun z => .if_icmp .ge z) 11 h rfl (zq_o_162 _) (by decide +kernel), ?_⟩
  replace h := zq_nx3 (q := 60) h rfl
  refine ⟨zq_k_n 42 h rfl (zq_o_42 _), ?_⟩
  replace h := zq_nx1 (q := 61) h rfl
  refine ⟨zq_k_n 28 h rfl (zq_o_28 _), ?_⟩
  replace h := zq_nx1 (q := 62) h rfl
  refine ⟨zq_k_u2 182 (fun z => .invokevirtual z) 201 h rfl (zq_o_182 _) (by decide +kernel), ?_⟩
  replace h := zq_nx3 (q := 65) h rfl
  refine ⟨zq_k_s2 167 (fun z => .goto z) 4 h rfl (zq_o_167 _) (by decide +kernel), ?_⟩
  replace h := zq_nx3 (q := 68) h rfl
  refine ⟨zq_k_n 3 h rfl (zq_o_3 _), ?_⟩
  replace h := zq_nx1 (q := 69) h rfl
  refine ⟨zq_k_n 79 h rfl (zq_o_79 _), ?_⟩
  replace h := zq_nx1 (q := 70) h rfl
  refine ⟨zq_k_iinc 2 1 h rfl (zq_o_132 _) (by decide +kernel) (by decide +kernel), ?_⟩
  replace h := zq_nx3 (q := 73) h rfl
  refine ⟨zq_k_s2 167 (fun z => .goto z) (-31) h rfl (zq_o_167 _) (by decide +kernel), ?_⟩
  replace h := zq_nx3 (q := 76) h rfl
  exact zq_k_n 177 h rfl (zq_o_177 _)
theorem d_M_startsRota_40 : decode prog_10_method_58_code 40 = .ok (.iconst 0, 1) := dd_M_startsRota_40.1
theorem d_M_startsRota_41 : decode prog_10_method_58_code 41 = .ok (.istore_n 2, 1) := dd_M_startsRota_40.2.1
theorem d_M_startsRota_42 : decode prog_10_method_58_code 42 = .ok (.iload_n 2, 1) := dd_M_startsRota_40.2.2.1
theorem d_M_startsRota_43 : decode prog_10_method_58_code 43 = .ok (.iconst 3, 1) := dd_M_startsRota_40.2.2.2.1
theorem d_M_startsRota_44 : decode prog_10_method_58_code 44 = .ok (.if_icmp .ge 32, 3) := dd_M_startsRota_40.2.2.2.2.1
theorem d_M_startsRota_47 : decode prog_10_method_58_code 47 = .ok (.aload_n 0, 1) := dd_M_startsRota_40.2.2.2.2.2.1
theorem d_M_startsRota_48 : decode prog_10_method_58_code 48 = .ok (.getfield 59, 3) := dd_M_startsRota_40.2.2.2.2.2.2.1
theorem d_M_startsRota_51 : decode prog_10_method_58_code 51 = .ok (.iload_n 2, 1) := dd_M_startsRota_40.2.2.2.2.2.2.2.1
theorem d_M_startsRota_52 : decode prog_10_method_58_code 52 = .ok (.iload_n 2, 1) := dd_M_startsRota_40.2.2.2.2.2.2.2.2.1
theorem d_M_startsRota_53 : decode prog_10_method_58_code 53 = .ok (.aload_n 0, 1) := dd_M_startsRota_40.2.2.2.2.2.2.2.2.2.1
theorem d_M_startsRota_54 : decode prog_10_method_58_code 54 = .ok (.getfield 109, 3) := dd_M_startsRota_40.2.2.2.2.2.2.2.2.2.2.1
theorem d_M_startsRota_57 : decode prog_10_method_58_code 57 = .ok (.if_icmp .ge 11, 3) := dd_M_startsRota_40.2.2.2.2.2.2.2.2.2.2.2.1
theorem d_M_startsRota_60 : decode prog_10_method_58_code 60 = .ok (.aload_n 0, 1) := dd_M_startsRota_40.2.2.2.2.2.2.2.2.2.2.2.2.1
theorem d_M_startsRota_61 : decode prog_10_method_58_code 61 = .ok (.iload_n 2, 1) := dd_M_startsRota_40.2.2.2.2.2.2.2.2.2.2.2.2.2.1
theorem d_M_startsRota_62 : decode prog_10_method_58_code 62 = .ok (.invokevirtual 201, 3) := dd_M_startsRota_40.2.2.2.2.2.2.2.2.2.2.2.2.2.2.1
theorem d_M_startsRota_65 : decode prog_10_method_58_code 65 = .ok (.goto 4, 3) := dd_M_startsRota_40.2.2.2.2.2.2.2.2.2.2.2.2.2.2.2.1
theorem d_M_startsRota_68 : decode prog_10_method_58_code 68 = .ok (.iconst 0, 1) := dd_M_startsRota_40.2.2.2.2.2.2.2.2.2.2.2.2.2.2.2.2.1
theorem d_M_startsRota_69 : decode prog_10_method_58_code 69 = .ok (.iastore, 1) := dd_M_startsRota_40.2.2.2.2.2.2.2.2.2.2.2.2.2.2.2.2.2.1
theorem d_M_startsRota_70 : decode prog_10_method_58_code 70 = .ok (.iinc 2 1, 3) := dd_M_startsRota_40.2.2.2.2.2.2.2.2.2.2.2.2.2.2.2.2.2.2.1
theorem d_M_startsRota_73 : decode prog_10_method_58_code 73 = .ok (.goto (-31), 3) := dd_M_startsRota_40.2.2.2.2.2.2.2.2.2.2.2.2.2.2.2.2.2.2.2.1
theorem d_M_startsRota_76 : decode prog_10_method_58_code 76 = .ok (.return_, 1) := dd_M_startsRota_40.2.2.2.2.2.2.2.2.2.2.2.2.2.2.2.2.2.2.2.2
def f_M_startsRota_69 (rec42 : Nat → Int32 → mH → Option mH) (b0 : Nat) (b2 : Int32) (s0 : Nat) (s1 : Int32) (s2 : Int32) (h : mH) : Option mH :=
  bd1 (sI h 0 s0 s1 s2) fun h25 =>
  rec42 b0 (b2 + (1 : Int32)) h25
set_option maxRecDepth 20000 in
theorem t_M_startsRota_69 {sc : Nat × (Nat → Int32)} (rec42 : Nat → Int32 → mH → Option mH) (hrec42 : ∀ (b0 : Nat) (b2 : Int32) (h : mH) (h' : mH), rec42 b0 b2 h = some h' → G sc y_M_startsRota prog_10_method_58_code 3 none 3 67 42 [(0, .ref b0), (2, .int b2)] [] h none h') (b0 : Nat) (b2 : Int32) (s0 : Nat) (s1 : Int32) (s2 : Int32) (h : mH) (h' : mH) (hf : f_M_startsRota_69 rec42 b0 b2 s0 s1 s2 h = some h') : G sc y_M_startsRota prog_10_method_58_code 3 none 3 67 69 [(0, .ref b0), (2, .int b2)] [.int s2, .int s1, .ref s0] h none h' := by
  unfold f_M_startsRota_69 at hf
  obtain ⟨h25, e26, hf⟩ := bd1_e hf
  refine g_iast (pc := 69) d_M_startsRota_69 e26 ?_
  refine g_iinc (pc := 70) 1 (b2 + (1 : Int32)) [(2, .int (b2 + (1 : Int32))), (0, .ref b0)] d_M_startsRota_70 rfl rfl (Nat.le_of_ble_eq_true rfl) rfl ?_
  refine g_goto (pc := 73) 42 d_M_startsRota_73 (by decide) ?_
  refine g_lv [1, 0] rfl ?_
  exact hrec42 _ _ _ _  hf
def f_M_startsRota_42b (rec42 : Nat → Int32 → mH → Option mH) (b0 : Nat) (b2 : Int32) (h : mH) : Option mH :=
  if (3 : Int32) ≤ b2 then
    some h
  else
    bd1 (gR h b0 8 29) fun x14 =>
    bd1 (gI h b0 8 3) fun x16 =>
    if x16 ≤ b2 then
      f_M_startsRota_69 rec42 b0 b2 x14 b2 (0 : Int32) h
    else
      bd1 (kC h b0 8) fun _ =>
      bd2 (f_M_timeLeft b0 b2 h) fun x22 h20 =>
      f_M_startsRota_69 rec42 b0 b2 x14 b2 x22 h20
set_option maxRecDepth 20000 in
theorem t_M_startsRota_42b {sc : Nat × (Nat → Int32)} (rec42 : Nat → Int32 → mH → Option mH) (hrec42 : ∀ (b0 : Nat) (b2 : Int32) (h : mH) (h' : mH), rec42 b0 b2 h = some h' → G sc y_M_startsRota prog_10_method_58_code 3 none 3 67 42 [(0, .ref b0), (2, .int b2)] [] h none h') (b0 : Nat) (b2 : Int32) (h : mH) (h' : mH) (hf : f_M_startsRota_42b rec42 b0 b2 h = some h') : G sc y_M_startsRota prog_10_method_58_code 3 none 3 67 42 [(0, .ref b0), (2, .int b2)] [] h none h' := by
  unfold f_M_startsRota_42b at hf
  refine g_iload_n (pc := 42) 1 d_M_startsRota_42 rfl rfl ?_
  refine g_iconst (pc := 43) (3 : Int32) d_M_startsRota_43 (by decide) ?_
  refine g_icmpge (pc := 44) 76 d_M_startsRota_44 (by decide) (fun c24 => ?_) (fun c24 => ?_)
  · replace hf := (if_pos c24).symm.trans hf
    obtain rfl := ret1 hf
    exact g_vret (pc := 76) rfl d_M_startsRota_76
  · replace hf := (if_neg c24).symm.trans hf
    refine g_aload_n (pc := 47) 0 d_M_startsRota_47 rfl rfl ?_
    obtain ⟨x14, e15, hf⟩ := bd1_e hf
    refine g_get (pc := 48) (ci := 8) (kk := 29) d_M_startsRota_48 rfl in_M (by decide) wd_967 (gR_spec e15) ?_
    refine g_iload_n (pc := 51) 1 d_M_startsRota_51 rfl rfl ?_
    refine g_iload_n (pc := 52) 1 d_M_startsRota_52 rfl rfl ?_
    refine g_aload_n (pc := 53) 0 d_M_startsRota_53 rfl rfl ?_
    obtain ⟨x16, e17, hf⟩ := bd1_e hf
    refine g_get (pc := 54) (ci := 8) (kk := 3) d_M_startsRota_54 rfl in_M (by decide) wd_941 (gI_spec e17) ?_
    refine g_icmpge (pc := 57) 68 d_M_startsRota_57 (by decide) (fun c23 => ?_) (fun c23 => ?_)
    · replace hf := (if_pos c23).symm.trans hf
      refine g_iconst (pc := 68) (0 : Int32) d_M_startsRota_68 (by decide) ?_
      refine g_lv [0, 1] rfl ?_
      exact t_M_startsRota_69 rec42 hrec42 _ _ _ _ _ _ _  hf
    · replace hf := (if_neg c23).symm.trans hf
      refine g_aload_n (pc := 60) 0 d_M_startsRota_60 rfl rfl ?_
      refine g_iload_n (pc := 61) 1 d_M_startsRota_61 rfl rfl ?_
      obtain ⟨u19, e18, hf⟩ := bd1_e hf
      obtain ⟨x22, h20, e21, hf⟩ := bd2_e hf
      refine g_callV (pc := 62) (ci := 8) [.int b2] (site_of si_M_timeLeft (by decide) (by decide)) wd_1172 wd_1174 wp_52 d_M_startsRota_62 rfl e18 (Nat.le_of_ble_eq_true rfl) (fun z => absurd z (by decide)) (fun z => absurd z (by decide)) (fun z => absurd z (by decide)) (c_M_timeLeft e21) rfl ?_
      refine g_st [.int x22, .int b2, .ref x14] rfl ?_
      refine g_goto (pc := 65) 69 d_M_startsRota_65 (by decide) ?_
      refine g_lv [0, 1] rfl ?_
      exact t_M_startsRota_69 rec42 hrec42 _ _ _ _ _ _ _  hf
def f_M_startsRota_42  : Nat → Nat → Int32 → mH → Option mH
  | 0 => fun _ _ _ => none
  | n + 1 => f_M_startsRota_42b  (f_M_startsRota_42  n)
theorem t_M_startsRota_42 {sc : Nat × (Nat → Int32)}  : ∀ (n : Nat) (b0 : Nat) (b2 : Int32) (h : mH) (h' : mH) (hf : f_M_startsRota_42  n b0 b2 h = some h'), G sc y_M_startsRota prog_10_method_58_code 3 none 3 67 42 [(0, .ref b0), (2, .int b2)] [] h none h'
  | 0, _, _, _, _, hf => by cases hf
  | n + 1, _, _, _, _, hf => t_M_startsRota_42b  (f_M_startsRota_42  n) (t_M_startsRota_42  n) _ _ _ _ hf
def f_M_startsRota_33 (rec2 : Nat → Int32 → Int32 → mH → Option mH) (b0 : Nat) (b1 : Int32) (b2 : Int32) (s0 : Nat) (s1 : Int32) (s2 : Int32) (h : mH) : Option mH :=
  bd1 (sI h 0 s0 s1 s2) fun h12 =>
  rec2 b0 b1 (b2 + (1 : Int32)) h12
set_option maxRecDepth 20000 in
theorem t_M_startsRota_33 {sc : Nat × (Nat → Int32)} (rec2 : Nat → Int32 → Int32 → mH → Option mH) (hrec2 : ∀ (b0 : Nat) (b1 : Int32) (b2 : Int32) (h : mH) (h' : mH), rec2 b0 b1 b2 h = some h' → G sc y_M_startsRota prog_10_method_58_code 3 none 3 67 2 [(0, .ref b0), (1, .int b1), (2, .int b2)] [] h none h') (b0 : Nat) (b1 : Int32) (b2 : Int32) (s0 : Nat) (s1 : Int32) (s2 : Int32) (h : mH) (h' : mH) (hf : f_M_startsRota_33 rec2 b0 b1 b2 s0 s1 s2 h = some h') : G sc y_M_startsRota prog_10_method_58_code 3 none 3 67 33 [(0, .ref b0), (1, .int b1), (2, .int b2)] [.int s2, .int s1, .ref s0] h none h' := by
  unfold f_M_startsRota_33 at hf
  obtain ⟨h12, e13, hf⟩ := bd1_e hf
  refine g_iast (pc := 33) d_M_startsRota_33 e13 ?_
  refine g_iinc (pc := 34) 2 (b2 + (1 : Int32)) [(2, .int (b2 + (1 : Int32))), (0, .ref b0), (1, .int b1)] d_M_startsRota_34 rfl rfl (Nat.le_of_ble_eq_true rfl) rfl ?_
  refine g_goto (pc := 37) 2 d_M_startsRota_37 (by decide) ?_
  refine g_lv [1, 2, 0] rfl ?_
  exact hrec2 _ _ _ _ _  hf
def f_M_startsRota_2b (rec2 : Nat → Int32 → Int32 → mH → Option mH) (b0 : Nat) (b1 : Int32) (b2 : Int32) (h : mH) : Option mH :=
  bd1 (gI h b0 8 2) fun x1 =>
  if x1 ≤ b2 then
    f_M_startsRota_42  FU b0 (0 : Int32) h
  else
    bd1 (gR h b0 8 28) fun x3 =>
    if ((b1 >>> (b2 &&& 31)) &&& (1 : Int32)) = (1 : Int32) then
      bd1 (kC h b0 8) fun _ =>
      bd2 (f_M_needOf b0 b2 h) fun x9 h7 =>
      f_M_startsRota_33 rec2 b0 b1 b2 x3 b2 x9 h7
    else
      f_M_startsRota_33 rec2 b0 b1 b2 x3 b2 (0 : Int32) h
set_option maxRecDepth 20000 in
theorem t_M_startsRota_2b {sc : Nat × (Nat → Int32)} (rec2 : Nat → Int32 → Int32 → mH → Option mH) (hrec2 : ∀ (b0 : Nat) (b1 : Int32) (b2 : Int32) (h : mH) (h' : mH), rec2 b0 b1 b2 h = some h' → G sc y_M_startsRota prog_10_method_58_code 3 none 3 67 2 [(0, .ref b0), (1, .int b1), (2, .int b2)] [] h none h') (b0 : Nat) (b1 : Int32) (b2 : Int32) (h : mH) (h' : mH) (hf : f_M_startsRota_2b rec2 b0 b1 b2 h = some h') : G sc y_M_startsRota prog_10_method_58_code 3 none 3 67 2 [(0, .ref b0), (1, .int b1), (2, .int b2)] [] h none h' := by
  unfold f_M_startsRota_2b at hf
  refine g_iload_n (pc := 2) 2 d_M_startsRota_2 rfl rfl ?_
  refine g_aload_n (pc := 3) 0 d_M_startsRota_3 rfl rfl ?_
  obtain ⟨x1, e2, hf⟩ := bd1_e hf
  refine g_get (pc := 4) (ci := 8) (kk := 2) d_M_startsRota_4 rfl in_M (by decide) wd_940 (gI_spec e2) ?_
  refine g_icmpge (pc := 7) 40 d_M_startsRota_7 (by decide) (fun c11 => ?_) (fun c11 => ?_)
  · replace hf := (if_pos c11).symm.trans hf
    refine g_iconst (pc := 40) (0 : Int32) d_M_startsRota_40 (by decide) ?_
    refine g_istore_n (pc := 41) [(2, .int (0 : Int32)), (0, .ref b0), (1, .int b1)] d_M_startsRota_41 rfl (Nat.le_of_ble_eq_true rfl) rfl ?_
    refine g_lv [1, 0] rfl ?_
    exact t_M_startsRota_42  FU _ _ _ _  hf
  · replace hf := (if_neg c11).symm.trans hf
    refine g_aload_n (pc := 10) 0 d_M_startsRota_10 rfl rfl ?_
    obtain ⟨x3, e4, hf⟩ := bd1_e hf
    refine g_get (pc := 11) (ci := 8) (kk := 28) d_M_startsRota_11 rfl in_M (by decide) wd_966 (gR_spec e4) ?_
    refine g_iload_n (pc := 14) 2 d_M_startsRota_14 rfl rfl ?_
    refine g_iload_n (pc := 15) 1 d_M_startsRota_15 rfl rfl ?_
    refine g_iload_n (pc := 16) 2 d_M_startsRota_16 rfl rfl ?_
    refine g_ishr (pc := 17) d_M_startsRota_17 ?_
    refine g_iconst (pc := 18) (1 : Int32) d_M_startsRota_18 (by decide) ?_
    refine g_iand (pc := 19) d_M_startsRota_19 ?_
    refine g_iconst (pc := 20) (1 : Int32) d_M_startsRota_20 (by decide) ?_
    refine g_icmpne (pc := 21) 32 d_M_startsRota_21 (by decide) (fun c10 => ?_) (fun c10 => ?_)
    · replace hf := (if_neg c10).symm.trans hf
      refine g_iconst (pc := 32) (0 : Int32) d_M_startsRota_32 (by decide) ?_
      refine g_lv [0, 1, 2] rfl ?_
      exact t_M_startsRota_33 rec2 hrec2 _ _ _ _ _ _ _ _  hf
    · replace hf := (if_pos c10).symm.trans hf
      refine g_aload_n (pc := 24) 0 d_M_startsRota_24 rfl rfl ?_
      refine g_iload_n (pc := 25) 2 d_M_startsRota_25 rfl rfl ?_
      obtain ⟨u6, e5, hf⟩ := bd1_e hf
      obtain ⟨x9, h7, e8, hf⟩ := bd2_e hf
      refine g_callV (pc := 26) (ci := 8) [.int b2] (site_of si_M_needOf (by decide) (by decide)) wd_1140 wd_1142 wp_45 d_M_startsRota_26 rfl e5 (Nat.le_of_ble_eq_true rfl) (fun z => absurd z (by decide)) (fun z => absurd z (by decide)) (fun z => absurd z (by decide)) (c_M_needOf e8) rfl ?_
      refine g_st [.int x9, .int b2, .ref x3] rfl ?_
      refine g_goto (pc := 29) 33 d_M_startsRota_29 (by decide) ?_
      refine g_lv [0, 1, 2] rfl ?_
      exact t_M_startsRota_33 rec2 hrec2 _ _ _ _ _ _ _ _  hf
def f_M_startsRota_2  : Nat → Nat → Int32 → Int32 → mH → Option mH
  | 0 => fun _ _ _ _ => none
  | n + 1 => f_M_startsRota_2b  (f_M_startsRota_2  n)
theorem t_M_startsRota_2 {sc : Nat × (Nat → Int32)}  : ∀ (n : Nat) (b0 : Nat) (b1 : Int32) (b2 : Int32) (h : mH) (h' : mH) (hf : f_M_startsRota_2  n b0 b1 b2 h = some h'), G sc y_M_startsRota prog_10_method_58_code 3 none 3 67 2 [(0, .ref b0), (1, .int b1), (2, .int b2)] [] h none h'
  | 0, _, _, _, _, _, hf => by cases hf
  | n + 1, _, _, _, _, _, hf => t_M_startsRota_2b  (f_M_startsRota_2  n) (t_M_startsRota_2  n) _ _ _ _ _ hf
def f_M_startsRota_0  (a0 : Nat) (a1 : Int32) (h : mH) : Option mH :=
  f_M_startsRota_2  FU a0 a1 (0 : Int32) h
set_option maxRecDepth 20000 in
theorem t_M_startsRota_0 {sc : Nat × (Nat → Int32)}  (a0 : Nat) (a1 : Int32) (h : mH) (h' : mH) (hf : f_M_startsRota_0  a0 a1 h = some h') : G sc y_M_startsRota prog_10_method_58_code 3 none 3 67 0 [(0, .ref a0), (1, .int a1)] [] h none h' := by
  unfold f_M_startsRota_0 at hf
  refine g_iconst (pc := 0) (0 : Int32) d_M_startsRota_0 (by decide) ?_
  refine g_istore_n (pc := 1) [(2, .int (0 : Int32)), (0, .ref a0), (1, .int a1)] d_M_startsRota_1 rfl (Nat.le_of_ble_eq_true rfl) rfl ?_
  refine g_lv [1, 2, 0] rfl ?_
  exact t_M_startsRota_2  FU _ _ _ _ _  hf
def f_M_startsRota (a0 : Nat) (a1 : Int32) (h : mH) : Option mH := f_M_startsRota_0 a0 a1 h
theorem c_M_startsRota {sc : Nat × (Nat → Int32)} {a0 : Nat} {a1 : Int32} {h : mH} {h' : mH} (hf : f_M_startsRota a0 a1 h = some h') : MM sc y_M_startsRota prog_10_method_58_code 3 none 3 67 [.ref a0, .int a1] h none h' :=
  mm_of_G (by decide) (Nat.le_of_ble_eq_true rfl) (t_M_startsRota_0 _ _ _ _ hf)
/-! M at (IIII)I -/
set_option maxRecDepth 100000 in
theorem dd_M_at_0 : (decode prog_10_method_53_code 0 = .ok (.bipush 16, 2)) ∧ (decode prog_10_method_53_code 2 = .ok (.iload_n 0, 1)) ∧ (decode prog_10_method_53_code 3 = .ok (.imul, 1)) ∧ (decode prog_10_method_53_code 4 = .ok (.iload_n 1, 1)) ∧ (decode prog_10_method_53_code 5 = .ok (.iadd, 1)) ∧ (decode prog_10_method_53_code 6 = .ok (.bipush 16, 2)) ∧ (decode prog_10_method_53_code 8 = .ok (.imul, 1)) ∧ (decode prog_10_method_53_code 9 = .ok (.iload_n 2, 1)) ∧ (decode prog_10_method_53_code 10 = .ok (.iadd, 1)) ∧ (decode prog_10_method_53_code 11 = .ok (.bipush 16, 2)) ∧ (decode prog_10_method_53_code 13 = .ok (.imul, 1)) ∧ (decode prog_10_method_53_code 14 = .ok (.iload_n 3, 1)) ∧ (decode prog_10_method_53_code 15 = .ok (.iadd, 1)) ∧ (decode prog_10_method_53_code 16 = .ok (.ireturn, 1)) := by
  have h : List.drop 0 prog_10_method_53_code.data.toList = 0x10 :: _ := rfl
  refine ⟨zq_k_s1 16 (fun z => .bipush z) 16 h rfl (zq_o_16 _) (by decide +kernel), ?_⟩
  replace h := zq_nx2 (q := 2) h rfl
  refine ⟨zq_k_n 26 h rfl (zq_o_26 _), ?_⟩
  replace h := zq_nx1 (q := 3) h rfl
  refine ⟨zq_k_n 104 h rfl (zq_o_104 _), ?_⟩
  replace h := zq_nx1 (q := 4) h rfl
  refine ⟨zq_k_n 27 h rfl (zq_o_27 _), ?_⟩
  replace h := zq_nx1 (q := 5) h rfl
  refine ⟨zq_k_n 96 h rfl (zq_o_96 _), ?_⟩
  replace h := zq_nx1 (q := 6) h rfl
  refine ⟨zq_k_s1 16 (fun z => .bipush z) 16 h rfl (zq_o_16 _) (by decide +kernel), ?_⟩
  replace h := zq_nx2 (q := 8) h rfl
  refine ⟨zq_k_n 104 h rfl (zq_o_104 _), ?_⟩
  replace h := zq_nx1 (q := 9) h rfl
  refine ⟨zq_k_n 28 h rfl (zq_o_28 _), ?_⟩
  replace h := zq_nx1 (q := 10) h rfl
  refine ⟨zq_k_n 96 h rfl (zq_o_96 _), ?_⟩
  replace h := zq_nx1 (q := 11) h rfl
  refine ⟨zq_k_s1 16 (fun z => .bipush z) 16 h rfl (zq_o_16 _) (by decide +kernel), ?_⟩
  replace h := zq_nx2 (q := 13) h rfl
  refine ⟨zq_k_n 104 h rfl (zq_o_104 _), ?_⟩
  replace h := zq_nx1 (q := 14) h rfl
  refine ⟨zq_k_n 29 h rfl (zq_o_29 _), ?_⟩
  replace h := zq_nx1 (q := 15) h rfl
  refine ⟨zq_k_n 96 h rfl (zq_o_96 _), ?_⟩
  replace h := zq_nx1 (q := 16) h rfl
  exact zq_k_n 172 h rfl (zq_o_172 _)
theorem d_M_at_0 : decode prog_10_method_53_code 0 = .ok (.bipush 16, 2) := dd_M_at_0.1
theorem d_M_at_2 : decode prog_10_method_53_code 2 = .ok (.iload_n 0, 1) := dd_M_at_0.2.1
theorem d_M_at_3 : decode prog_10_method_53_code 3 = .ok (.imul, 1) := dd_M_at_0.2.2.1
theorem d_M_at_4 : decode prog_10_method_53_code 4 = .ok (.iload_n 1, 1) := dd_M_at_0.2.2.2.1
theorem d_M_at_5 : decode prog_10_method_53_code 5 = .ok (.iadd, 1) := dd_M_at_0.2.2.2.2.1
theorem d_M_at_6 : decode prog_10_method_53_code 6 = .ok (.bipush 16, 2) := dd_M_at_0.2.2.2.2.2.1
theorem d_M_at_8 : decode prog_10_method_53_code 8 = .ok (.imul, 1) := dd_M_at_0.2.2.2.2.2.2.1
theorem d_M_at_9 : decode prog_10_method_53_code 9 = .ok (.iload_n 2, 1) := dd_M_at_0.2.2.2.2.2.2.2.1
theorem d_M_at_10 : decode prog_10_method_53_code 10 = .ok (.iadd, 1) := dd_M_at_0.2.2.2.2.2.2.2.2.1
theorem d_M_at_11 : decode prog_10_method_53_code 11 = .ok (.bipush 16, 2) := dd_M_at_0.2.2.2.2.2.2.2.2.2.1
theorem d_M_at_13 : decode prog_10_method_53_code 13 = .ok (.imul, 1) := dd_M_at_0.2.2.2.2.2.2.2.2.2.2.1
theorem d_M_at_14 : decode prog_10_method_53_code 14 = .ok (.iload_n 3, 1) := dd_M_at_0.2.2.2.2.2.2.2.2.2.2.2.1
theorem d_M_at_15 : decode prog_10_method_53_code 15 = .ok (.iadd, 1) := dd_M_at_0.2.2.2.2.2.2.2.2.2.2.2.2.1
theorem d_M_at_16 : decode prog_10_method_53_code 16 = .ok (.ireturn, 1) := dd_M_at_0.2.2.2.2.2.2.2.2.2.2.2.2.2
def f_M_at_0  (a0 : Int32) (a1 : Int32) (a2 : Int32) (a3 : Int32) (h : mH) : Option (Int32 × mH) :=
  some (((((((16 : Int32) * a0) + a1) * (16 : Int32)) + a2) * (16 : Int32)) + a3, h)
set_option maxRecDepth 20000 in
theorem t_M_at_0 {sc : Nat × (Nat → Int32)}  (a0 : Int32) (a1 : Int32) (a2 : Int32) (a3 : Int32) (h : mH) (r : Int32) (h' : mH) (hf : f_M_at_0  a0 a1 a2 a3 h = some (r, h')) : G sc y_M_at prog_10_method_53_code 4 (some .int) 0 0 0 [(0, .int a0), (1, .int a1), (2, .int a2), (3, .int a3)] [] h (some (.int r)) h' := by
  unfold f_M_at_0 at hf
  refine g_bipush (pc := 0) (16 : Int32) d_M_at_0 (by decide) ?_
  refine g_iload_n (pc := 2) 0 d_M_at_2 rfl rfl ?_
  refine g_imul (pc := 3) d_M_at_3 ?_
  refine g_iload_n (pc := 4) 1 d_M_at_4 rfl rfl ?_
  refine g_iadd (pc := 5) d_M_at_5 ?_
  refine g_bipush (pc := 6) (16 : Int32) d_M_at_6 (by decide) ?_
  refine g_imul (pc := 8) d_M_at_8 ?_
  refine g_iload_n (pc := 9) 2 d_M_at_9 rfl rfl ?_
  refine g_iadd (pc := 10) d_M_at_10 ?_
  refine g_bipush (pc := 11) (16 : Int32) d_M_at_11 (by decide) ?_
  refine g_imul (pc := 13) d_M_at_13 ?_
  refine g_iload_n (pc := 14) 3 d_M_at_14 rfl rfl ?_
  refine g_iadd (pc := 15) d_M_at_15 ?_
  obtain ⟨rfl, rfl⟩ := ret2 hf
  exact g_iret (pc := 16) rfl d_M_at_16
def f_M_at (a0 : Int32) (a1 : Int32) (a2 : Int32) (a3 : Int32) (h : mH) : Option (Int32 × mH) := f_M_at_0 a0 a1 a2 a3 h
theorem c_M_at {sc : Nat × (Nat → Int32)} {a0 : Int32} {a1 : Int32} {a2 : Int32} {a3 : Int32} {h : mH} {r : Int32} {h' : mH} (hf : f_M_at a0 a1 a2 a3 h = some (r, h')) : MM sc y_M_at prog_10_method_53_code 4 (some .int) 0 0 [.int a0, .int a1, .int a2, .int a3] h (some (.int r)) h' :=
  mm_of_G (by decide) (Nat.le_of_ble_eq_true rfl) (t_M_at_0 _ _ _ _ _ _ _ hf)
/-! M roomAt (II)I -/
set_option maxRecDepth 100000 in
theorem dd_M_roomAt_0 : (decode prog_10_method_54_code 0 = .ok (.iload_n 1, 1)) ∧ (decode prog_10_method_54_code 1 = .ok (.aload_n 0, 1)) ∧ (decode prog_10_method_54_code 2 = .ok (.getfield 109, 3)) ∧ (decode prog_10_method_54_code 5 = .ok (.if_icmp .ge 12, 3)) ∧ (decode prog_10_method_54_code 8 = .ok (.aload_n 0, 1)) ∧ (decode prog_10_method_54_code 9 = .ok (.iload_n 1, 1)) ∧ (decode prog_10_method_54_code 10 = .ok (.iload_n 2, 1)) ∧ (decode prog_10_method_54_code 11 = .ok (.invokevirtual 198, 3)) ∧ (decode prog_10_method_54_code 14 = .ok (.goto 4, 3)) ∧ (decode prog_10_method_54_code 17 = .ok (.iconst 0, 1)) ∧ (decode prog_10_method_54_code 18 = .ok (.ireturn, 1)) := by
  have h : List.drop 0 prog_10_method_54_code.data.toList = 0x1b :: _ := rfl
  refine ⟨zq_k_n 27 h rfl (zq_o_27 _), ?_⟩
  replace h := zq_nx1 (q := 1) h rfl
  refine ⟨zq_k_n 42 h rfl (zq_o_42 _), ?_⟩
  replace h := zq_nx1 (q := 2) h rfl
  refine ⟨zq_k_u2 180 (fun z => .getfield z) 109 h rfl (zq_o_180 _) (by decide +kernel), ?_⟩
  replace h := zq_nx3 (q := 5) h rfl
  refine ⟨zq_k_s2 162 (fun z => .if_icmp .ge z) 12 h rfl (zq_o_162 _) (by decide +kernel), ?_⟩
  replace h := zq_nx3 (q := 8) h rfl
  refine ⟨zq_k_n 42 h rfl (zq_o_42 _), ?_⟩
  replace h := zq_nx1 (q := 9) h rfl
  refine ⟨zq_k_n 27 h rfl (zq_o_27 _), ?_⟩
  replace h := zq_nx1 (q := 10) h rfl
  refine ⟨zq_k_n 28 h rfl (zq_o_28 _), ?_⟩
  replace h := zq_nx1 (q := 11) h rfl
  refine ⟨zq_k_u2 182 (fun z => .invokevirtual z) 198 h rfl (zq_o_182 _) (by decide +kernel), ?_⟩
  replace h := zq_nx3 (q := 14) h rfl
  refine ⟨zq_k_s2 167 (fun z => .goto z) 4 h rfl (zq_o_167 _) (by decide +kernel), ?_⟩
  replace h := zq_nx3 (q := 17) h rfl
  refine ⟨zq_k_n 3 h rfl (zq_o_3 _), ?_⟩
  replace h := zq_nx1 (q := 18) h rfl
  exact zq_k_n 172 h rfl (zq_o_172 _)
theorem d_M_roomAt_0 : decode prog_10_method_54_code 0 = .ok (.iload_n 1, 1) := dd_M_roomAt_0.1
theorem d_M_roomAt_1 : decode prog_10_method_54_code 1 = .ok (.aload_n 0, 1) := dd_M_roomAt_0.2.1
theorem d_M_roomAt_2 : decode prog_10_method_54_code 2 = .ok (.getfield 109, 3) := dd_M_roomAt_0.2.2.1
theorem d_M_roomAt_5 : decode prog_10_method_54_code 5 = .ok (.if_icmp .ge 12, 3) := dd_M_roomAt_0.2.2.2.1
theorem d_M_roomAt_8 : decode prog_10_method_54_code 8 = .ok (.aload_n 0, 1) := dd_M_roomAt_0.2.2.2.2.1
theorem d_M_roomAt_9 : decode prog_10_method_54_code 9 = .ok (.iload_n 1, 1) := dd_M_roomAt_0.2.2.2.2.2.1
theorem d_M_roomAt_10 : decode prog_10_method_54_code 10 = .ok (.iload_n 2, 1) := dd_M_roomAt_0.2.2.2.2.2.2.1
theorem d_M_roomAt_11 : decode prog_10_method_54_code 11 = .ok (.invokevirtual 198, 3) := dd_M_roomAt_0.2.2.2.2.2.2.2.1
theorem d_M_roomAt_14 : decode prog_10_method_54_code 14 = .ok (.goto 4, 3) := dd_M_roomAt_0.2.2.2.2.2.2.2.2.1
theorem d_M_roomAt_17 : decode prog_10_method_54_code 17 = .ok (.iconst 0, 1) := dd_M_roomAt_0.2.2.2.2.2.2.2.2.2.1
theorem d_M_roomAt_18 : decode prog_10_method_54_code 18 = .ok (.ireturn, 1) := dd_M_roomAt_0.2.2.2.2.2.2.2.2.2.2
def f_M_roomAt_0  (a0 : Nat) (a1 : Int32) (a2 : Int32) (h : mH) : Option (Int32 × mH) :=
  bd1 (gI h a0 8 3) fun x1 =>
  if x1 ≤ a1 then
    some ((0 : Int32), h)
  else
    bd1 (kC h a0 8) fun _ =>
    bd2 (f_M_roomOf a0 a1 a2 h) fun x7 h5 =>
    some (x7, h5)
set_option maxRecDepth 20000 in
theorem t_M_roomAt_0 {sc : Nat × (Nat → Int32)}  (a0 : Nat) (a1 : Int32) (a2 : Int32) (h : mH) (r : Int32) (h' : mH) (hf : f_M_roomAt_0  a0 a1 a2 h = some (r, h')) : G sc y_M_roomAt prog_10_method_54_code 3 (some .int) 2 46 0 [(0, .ref a0), (1, .int a1), (2, .int a2)] [] h (some (.int r)) h' := by
  unfold f_M_roomAt_0 at hf
  refine g_iload_n (pc := 0) 1 d_M_roomAt_0 rfl rfl ?_
  refine g_aload_n (pc := 1) 0 d_M_roomAt_1 rfl rfl ?_
  obtain ⟨x1, e2, hf⟩ := bd1_e hf
  refine g_get (pc := 2) (ci := 8) (kk := 3) d_M_roomAt_2 rfl in_M (by decide) wd_941 (gI_spec e2) ?_
  refine g_icmpge (pc := 5) 17 d_M_roomAt_5 (by decide) (fun c8 => ?_) (fun c8 => ?_)
  · replace hf := (if_pos c8).symm.trans hf
    refine g_iconst (pc := 17) (0 : Int32) d_M_roomAt_17 (by decide) ?_
    obtain ⟨rfl, rfl⟩ := ret2 hf
    exact g_iret (pc := 18) rfl d_M_roomAt_18
  · replace hf := (if_neg c8).symm.trans hf
    refine g_aload_n (pc := 8) 0 d_M_roomAt_8 rfl rfl ?_
    refine g_iload_n (pc := 9) 1 d_M_roomAt_9 rfl rfl ?_
    refine g_iload_n (pc := 10) 2 d_M_roomAt_10 rfl rfl ?_
    obtain ⟨u4, e3, hf⟩ := bd1_e hf
    obtain ⟨x7, h5, e6, hf⟩ := bd2_e hf
    refine g_callV (pc := 11) (ci := 8) [.int a1, .int a2] (site_of si_M_roomOf (by decide) (by decide)) wd_1168 wd_1170 wp_51 d_M_roomAt_11 rfl e3 (Nat.le_of_ble_eq_true rfl) (fun z => absurd z (by decide)) (fun z => absurd z (by decide)) (fun z => absurd z (by decide)) (c_M_roomOf e6) rfl ?_
    refine g_st [.int x7] rfl ?_
    refine g_goto (pc := 14) 18 d_M_roomAt_14 (by decide) ?_
    obtain ⟨rfl, rfl⟩ := ret2 hf
    exact g_iret (pc := 18) rfl d_M_roomAt_18
def f_M_roomAt (a0 : Nat) (a1 : Int32) (a2 : Int32) (h : mH) : Option (Int32 × mH) := f_M_roomAt_0 a0 a1 a2 h
theorem c_M_roomAt {sc : Nat × (Nat → Int32)} {a0 : Nat} {a1 : Int32} {a2 : Int32} {h : mH} {r : Int32} {h' : mH} (hf : f_M_roomAt a0 a1 a2 h = some (r, h')) : MM sc y_M_roomAt prog_10_method_54_code 3 (some .int) 2 46 [.ref a0, .int a1, .int a2] h (some (.int r)) h' :=
  mm_of_G (by decide) (Nat.le_of_ble_eq_true rfl) (t_M_roomAt_0 _ _ _ _ _ _ hf)
/-! M harmBy (IIIIIII)I -/
set_option maxRecDepth 100000 in
theorem dd_M_harmBy_0 : (decode prog_10_method_55_code 0 = .ok (.iload 5, 2)) ∧ (decode prog_10_method_55_code 2 = .ok (.iload_n 2, 1)) ∧ (decode prog_10_method_55_code 3 = .ok (.if_icmp .gt 49, 3)) ∧ (decode prog_10_method_55_code 6 = .ok (.iload 6, 2)) ∧ (decode prog_10_method_55_code 8 = .ok (.iload_n 3, 1)) ∧ (decode prog_10_method_55_code 9 = .ok (.if_icmp .gt 43, 3)) ∧ (decode prog_10_method_55_code 12 = .ok (.iload 7, 2)) ∧ (decode prog_10_method_55_code 14 = .ok (.iload 4, 2)) ∧ (decode prog_10_method_55_code 16 = .ok (.if_icmp .gt 36, 3)) ∧ (decode prog_10_method_55_code 19 = .ok (.iload 5, 2)) ∧ (decode prog_10_method_55_code 21 = .ok (.aload_n 0, 1)) ∧ (decode prog_10_method_55_code 22 = .ok (.iconst 0, 1)) ∧ (decode prog_10_method_55_code 23 = .ok (.iload_n 1, 1)) ∧ (decode prog_10_method_55_code 24 = .ok (.invokevirtual 243, 3)) ∧ (decode prog_10_method_55_code 27 = .ok (.if_icmp .gt 25, 3)) ∧ (decode prog_10_method_55_code 30 = .ok (.iload 6, 2)) ∧ (decode prog_10_method_55_code 32 = .ok (.aload_n 0, 1)) ∧ (decode prog_10_method_55_code 33 = .ok (.iconst 1, 1)) ∧ (decode prog_10_method_55_code 34 = .ok (.iload_n 1, 1)) ∧ (decode prog_10_method_55_code 35 = .ok (.invokevirtual 243, 3)) ∧ (decode prog_10_method_55_code 38 = .ok (.if_icmp .gt 14, 3)) ∧ (decode prog_10_method_55_code 41 = .ok (.iload 7, 2)) ∧ (decode prog_10_method_55_code 43 = .ok (.aload_n 0, 1)) ∧ (decode prog_10_method_55_code 44 = .ok (.iconst 2, 1)) := by
  have h : List.drop 0 prog_10_method_55_code.data.toList = 0x15 :: _ := rfl
  refine ⟨zq_k_u1 21 (fun z => .iload z) 5 h rfl (zq_o_21 _) (by decide +kernel), ?_⟩
  replace h := zq_nx2 (q := 2) h rfl
  refine ⟨zq_k_n 28 h rfl (zq_o_28 _), ?_⟩
  replace h := zq_nx1 (q := 3) h rfl
  refine ⟨zq_k_s2 163 (fun z => .if_icmp .gt z) 49 h rfl (zq_o_163 _) (by decide +kernel), ?_⟩
  replace h := zq_nx3 (q := 6) h rfl
  refine ⟨zq_k_u1 21 (fun z => .iload z) 6 h rfl (zq_o_21 _) (by decide +kernel), ?_⟩
  replace h := zq_nx2 (q := 8) h rfl
  refine ⟨zq_k_n 29 h rfl (zq_o_29 _), ?_⟩
  replace h := zq_nx1 (q := 9) h rfl
  refine ⟨zq_k_s2 163 (fun z => .if_icmp .gt z) 43 h rfl (zq_o_163 _) (by decide +kernel), ?_⟩
  replace h := zq_nx3 (q := 12) h rfl
  refine ⟨zq_k_u1 21 (fun z => .iload z) 7 h rfl (zq_o_21 _) (by decide +kernel), ?_⟩
  replace h := zq_nx2 (q := 14) h rfl
  refine ⟨zq_k_u1 21 (fun z => .iload z) 4 h rfl (zq_o_21 _) (by decide +kernel), ?_⟩
  replace h := zq_nx2 (q := 16) h rfl
  refine ⟨zq_k_s2 163 (fun z => .if_icmp .gt z) 36 h rfl (zq_o_163 _) (by decide +kernel), ?_⟩
  replace h := zq_nx3 (q := 19) h rfl
  refine ⟨zq_k_u1 21 (fun z => .iload z) 5 h rfl (zq_o_21 _) (by decide +kernel), ?_⟩
  replace h := zq_nx2 (q := 21) h rfl
  refine ⟨zq_k_n 42 h rfl (zq_o_42 _), ?_⟩
  replace h := zq_nx1 (q := 22) h rfl
  refine ⟨zq_k_n 3 h rfl (zq_o_3 _), ?_⟩
  replace h := zq_nx1 (q := 23) h rfl
  refine ⟨zq_k_n 27 h rfl (zq_o_27 _), ?_⟩
  replace h := zq_nx1 (q := 24) h rfl
  refine ⟨zq_k_u2 182 (fun z => .invokevirtual z) 243 h rfl (zq_o_182 _) (by decide +kernel), ?_⟩
  replace h := zq_nx3 (q := 27) h rfl
  refine ⟨zq_k_s2 163 (fun z => .if_icmp .gt z) 25 h rfl (zq_o_163 _) (by decide +kernel), ?_⟩
  replace h := zq_nx3 (q := 30) h rfl
  refine ⟨zq_k_u1 21 (fun z => .iload z) 6 h rfl (zq_o_21 _) (by decide +kernel), ?_⟩
  replace h := zq_nx2 (q := 32) h rfl
  refine ⟨zq_k_n 42 h rfl (zq_o_42 _), ?_⟩
  replace h := zq_nx1 (q := 33) h rfl
  refine ⟨zq_k_n 4 h rfl (zq_o_4 _), ?_⟩
  replace h := zq_nx1 (q := 34) h rfl
  refine ⟨zq_k_n 27 h rfl (zq_o_27 _), ?_⟩
  replace h := zq_nx1 (q := 35) h rfl
  refine ⟨zq_k_u2 182 (fun z => .invokevirtual z) 243 h rfl (zq_o_182 _) (by decide +kernel), ?_⟩
  replace h := zq_nx3 (q := 38) h rfl
  refine ⟨zq_k_s2 163 (fun z => .if_icmp .gt z) 14 h rfl (zq_o_163 _) (by decide +kernel), ?_⟩
  replace h := zq_nx3 (q := 41) h rfl
  refine ⟨zq_k_u1 21 (fun z => .iload z) 7 h rfl (zq_o_21 _) (by decide +kernel), ?_⟩
  replace h := zq_nx2 (q := 43) h rfl
  refine ⟨zq_k_n 42 h rfl (zq_o_42 _), ?_⟩
  replace h := zq_nx1 (q := 44) h rfl
  exact zq_k_n 5 h rfl (zq_o_5 _)
theorem d_M_harmBy_0 : decode prog_10_method_55_code 0 = .ok (.iload 5, 2) := dd_M_harmBy_0.1
theorem d_M_harmBy_2 : decode prog_10_method_55_code 2 = .ok (.iload_n 2, 1) := dd_M_harmBy_0.2.1
theorem d_M_harmBy_3 : decode prog_10_method_55_code 3 = .ok (.if_icmp .gt 49, 3) := dd_M_harmBy_0.2.2.1
theorem d_M_harmBy_6 : decode prog_10_method_55_code 6 = .ok (.iload 6, 2) := dd_M_harmBy_0.2.2.2.1
theorem d_M_harmBy_8 : decode prog_10_method_55_code 8 = .ok (.iload_n 3, 1) := dd_M_harmBy_0.2.2.2.2.1
theorem d_M_harmBy_9 : decode prog_10_method_55_code 9 = .ok (.if_icmp .gt 43, 3) := dd_M_harmBy_0.2.2.2.2.2.1
theorem d_M_harmBy_12 : decode prog_10_method_55_code 12 = .ok (.iload 7, 2) := dd_M_harmBy_0.2.2.2.2.2.2.1
theorem d_M_harmBy_14 : decode prog_10_method_55_code 14 = .ok (.iload 4, 2) := dd_M_harmBy_0.2.2.2.2.2.2.2.1
theorem d_M_harmBy_16 : decode prog_10_method_55_code 16 = .ok (.if_icmp .gt 36, 3) := dd_M_harmBy_0.2.2.2.2.2.2.2.2.1
theorem d_M_harmBy_19 : decode prog_10_method_55_code 19 = .ok (.iload 5, 2) := dd_M_harmBy_0.2.2.2.2.2.2.2.2.2.1
theorem d_M_harmBy_21 : decode prog_10_method_55_code 21 = .ok (.aload_n 0, 1) := dd_M_harmBy_0.2.2.2.2.2.2.2.2.2.2.1
theorem d_M_harmBy_22 : decode prog_10_method_55_code 22 = .ok (.iconst 0, 1) := dd_M_harmBy_0.2.2.2.2.2.2.2.2.2.2.2.1
theorem d_M_harmBy_23 : decode prog_10_method_55_code 23 = .ok (.iload_n 1, 1) := dd_M_harmBy_0.2.2.2.2.2.2.2.2.2.2.2.2.1
theorem d_M_harmBy_24 : decode prog_10_method_55_code 24 = .ok (.invokevirtual 243, 3) := dd_M_harmBy_0.2.2.2.2.2.2.2.2.2.2.2.2.2.1
theorem d_M_harmBy_27 : decode prog_10_method_55_code 27 = .ok (.if_icmp .gt 25, 3) := dd_M_harmBy_0.2.2.2.2.2.2.2.2.2.2.2.2.2.2.1
theorem d_M_harmBy_30 : decode prog_10_method_55_code 30 = .ok (.iload 6, 2) := dd_M_harmBy_0.2.2.2.2.2.2.2.2.2.2.2.2.2.2.2.1
theorem d_M_harmBy_32 : decode prog_10_method_55_code 32 = .ok (.aload_n 0, 1) := dd_M_harmBy_0.2.2.2.2.2.2.2.2.2.2.2.2.2.2.2.2.1
theorem d_M_harmBy_33 : decode prog_10_method_55_code 33 = .ok (.iconst 1, 1) := dd_M_harmBy_0.2.2.2.2.2.2.2.2.2.2.2.2.2.2.2.2.2.1
theorem d_M_harmBy_34 : decode prog_10_method_55_code 34 = .ok (.iload_n 1, 1) := dd_M_harmBy_0.2.2.2.2.2.2.2.2.2.2.2.2.2.2.2.2.2.2.1
theorem d_M_harmBy_35 : decode prog_10_method_55_code 35 = .ok (.invokevirtual 243, 3) := dd_M_harmBy_0.2.2.2.2.2.2.2.2.2.2.2.2.2.2.2.2.2.2.2.1
theorem d_M_harmBy_38 : decode prog_10_method_55_code 38 = .ok (.if_icmp .gt 14, 3) := dd_M_harmBy_0.2.2.2.2.2.2.2.2.2.2.2.2.2.2.2.2.2.2.2.2.1
theorem d_M_harmBy_41 : decode prog_10_method_55_code 41 = .ok (.iload 7, 2) := dd_M_harmBy_0.2.2.2.2.2.2.2.2.2.2.2.2.2.2.2.2.2.2.2.2.2.1
theorem d_M_harmBy_43 : decode prog_10_method_55_code 43 = .ok (.aload_n 0, 1) := dd_M_harmBy_0.2.2.2.2.2.2.2.2.2.2.2.2.2.2.2.2.2.2.2.2.2.2.1
theorem d_M_harmBy_44 : decode prog_10_method_55_code 44 = .ok (.iconst 2, 1) := dd_M_harmBy_0.2.2.2.2.2.2.2.2.2.2.2.2.2.2.2.2.2.2.2.2.2.2.2
set_option maxRecDepth 100000 in
theorem dd_M_harmBy_45 : (decode prog_10_method_55_code 45 = .ok (.iload_n 1, 1)) ∧ (decode prog_10_method_55_code 46 = .ok (.invokevirtual 243, 3)) ∧ (decode prog_10_method_55_code 49 = .ok (.if_icmp .le 6, 3)) ∧ (decode prog_10_method_55_code 52 = .ok (.ldc 246, 2)) ∧ (decode prog_10_method_55_code 54 = .ok (.ireturn, 1)) ∧ (decode prog_10_method_55_code 55 = .ok (.iload 5, 2)) ∧ (decode prog_10_method_55_code 57 = .ok (.aload_n 0, 1)) ∧ (decode prog_10_method_55_code 58 = .ok (.getfield 20, 3)) ∧ (decode prog_10_method_55_code 61 = .ok (.iload_n 1, 1)) ∧ (decode prog_10_method_55_code 62 = .ok (.iaload, 1)) ∧ (decode prog_10_method_55_code 63 = .ok (.aload_n 0, 1)) ∧ (decode prog_10_method_55_code 64 = .ok (.getfield 26, 3)) ∧ (decode prog_10_method_55_code 67 = .ok (.iconst 0, 1)) ∧ (decode prog_10_method_55_code 68 = .ok (.iaload, 1)) ∧ (decode prog_10_method_55_code 69 = .ok (.iadd, 1)) ∧ (decode prog_10_method_55_code 70 = .ok (.imul, 1)) ∧ (decode prog_10_method_55_code 71 = .ok (.iload 6, 2)) ∧ (decode prog_10_method_55_code 73 = .ok (.aload_n 0, 1)) ∧ (decode prog_10_method_55_code 74 = .ok (.getfield 20, 3)) ∧ (decode prog_10_method_55_code 77 = .ok (.iload_n 1, 1)) ∧ (decode prog_10_method_55_code 78 = .ok (.iaload, 1)) ∧ (decode prog_10_method_55_code 79 = .ok (.aload_n 0, 1)) ∧ (decode prog_10_method_55_code 80 = .ok (.getfield 26, 3)) ∧ (decode prog_10_method_55_code 83 = .ok (.iconst 1, 1)) := by
  have h : List.drop 45 prog_10_method_55_code.data.toList = 0x1b :: _ := rfl
  refine ⟨zq_k_n 27 h rfl (zq_o_27 _), ?_⟩
  replace h := zq_nx1 (q := 46) h rfl
  refine ⟨zq_k_u2 182 (fun z => .invokevirtual z) 243 h rfl (zq_o_182 _) (by decide +kernel), ?_⟩
  replace h := zq_nx3 (q := 49) h rfl
  refine ⟨zq_k_s2 164 (fun z => .if_icmp .le z) 6 h rfl (zq_o_164 _) (by decide +kernel), ?_⟩
  replace h := zq_nx3 (q := 52) h rfl
  refine ⟨zq_k_u1 18 (fun z => .ldc z) 246 h rfl (zq_o_18 _) (by decide +kernel), ?_⟩
  replace h := zq_nx2 (q := 54) h rfl
  refine ⟨zq_k_n 172 h rfl (zq_o_172 _), ?_⟩
  replace h := zq_nx1 (q := 55) h rfl
  refine ⟨zq_k_u1 21 (fun z => .iload z) 5 h rfl (zq_o_21 _) (by decide +kernel), ?_⟩
  replace h := zq_nx2 (q := 57) h rfl
  refine ⟨zq_k_n 42 h rfl (zq_o_42 _), ?_⟩
  replace h := zq_nx1 (q := 58) h rfl
  refine ⟨zq_k_u2 180 (fun z => .getfield z) 20 h rfl (zq_o_180 _) (by decide +kernel), ?_⟩
  replace h := zq_nx3 (q := 61) h rfl
  refine ⟨zq_k_n 27 h rfl (zq_o_27 _), ?_⟩
  replace h := zq_nx1 (q := 62) h rfl
  refine ⟨zq_k_n 46 h rfl (zq_o_46 _), ?_⟩
  replace h := zq_nx1 (q := 63) h rfl
  refine ⟨zq_k_n 42 h rfl (zq_o_42 _), ?_⟩
  replace h := zq_nx1 (q := 64) h rfl
  refine ⟨zq_k_u2 180 (fun z => .getfield z) 26 h rfl (zq_o_180 _) (by decide +kernel), ?_⟩
  replace h := zq_nx3 (q := 67) h rfl
  refine ⟨zq_k_n 3 h rfl (zq_o_3 _), ?_⟩
  replace h := zq_nx1 (q := 68) h rfl
  refine ⟨zq_k_n 46 h rfl (zq_o_46 _), ?_⟩
  replace h := zq_nx1 (q := 69) h rfl
  refine ⟨zq_k_n 96 h rfl (zq_o_96 _), ?_⟩
  replace h := zq_nx1 (q := 70) h rfl
  refine ⟨zq_k_n 104 h rfl (zq_o_104 _), ?_⟩
  replace h := zq_nx1 (q := 71) h rfl
  refine ⟨zq_k_u1 21 (fun z => .iload z) 6 h rfl (zq_o_21 _) (by decide +kernel), ?_⟩
  replace h := zq_nx2 (q := 73) h rfl
  refine ⟨zq_k_n 42 h rfl (zq_o_42 _), ?_⟩
  replace h := zq_nx1 (q := 74) h rfl
  refine ⟨zq_k_u2 180 (fun z => .getfield z) 20 h rfl (zq_o_180 _) (by decide +kernel), ?_⟩
  replace h := zq_nx3 (q := 77) h rfl
  refine ⟨zq_k_n 27 h rfl (zq_o_27 _), ?_⟩
  replace h := zq_nx1 (q := 78) h rfl
  refine ⟨zq_k_n 46 h rfl (zq_o_46 _), ?_⟩
  replace h := zq_nx1 (q := 79) h rfl
  refine ⟨zq_k_n 42 h rfl (zq_o_42 _), ?_⟩
  replace h := zq_nx1 (q := 80) h rfl
  refine ⟨zq_k_u2 180 (fun z => .getfield z) 26 h rfl (zq_o_180 _) (by decide +kernel), ?_⟩
  replace h := zq_nx3 (q := 83) h rfl
  exact zq_k_n 4 h rfl (zq_o_4 _)
theorem d_M_harmBy_45 : decode prog_10_method_55_code 45 = .ok (.iload_n 1, 1) := dd_M_harmBy_45.1
theorem d_M_harmBy_46 : decode prog_10_method_55_code 46 = .ok (.invokevirtual 243, 3) := dd_M_harmBy_45.2.1
theorem d_M_harmBy_49 : decode prog_10_method_55_code 49 = .ok (.if_icmp .le 6, 3) := dd_M_harmBy_45.2.2.1
theorem d_M_harmBy_52 : decode prog_10_method_55_code 52 = .ok (.ldc 246, 2) := dd_M_harmBy_45.2.2.2.1
theorem d_M_harmBy_54 : decode prog_10_method_55_code 54 = .ok (.ireturn, 1) := dd_M_harmBy_45.2.2.2.2.1
theorem d_M_harmBy_55 : decode prog_10_method_55_code 55 = .ok (.iload 5, 2) := dd_M_harmBy_45.2.2.2.2.2.1
theorem d_M_harmBy_57 : decode prog_10_method_55_code 57 = .ok (.aload_n 0, 1) := dd_M_harmBy_45.2.2.2.2.2.2.1
theorem d_M_harmBy_58 : decode prog_10_method_55_code 58 = .ok (.getfield 20, 3) := dd_M_harmBy_45.2.2.2.2.2.2.2.1
theorem d_M_harmBy_61 : decode prog_10_method_55_code 61 = .ok (.iload_n 1, 1) := dd_M_harmBy_45.2.2.2.2.2.2.2.2.1
theorem d_M_harmBy_62 : decode prog_10_method_55_code 62 = .ok (.iaload, 1) := dd_M_harmBy_45.2.2.2.2.2.2.2.2.2.1
theorem d_M_harmBy_63 : decode prog_10_method_55_code 63 = .ok (.aload_n 0, 1) := dd_M_harmBy_45.2.2.2.2.2.2.2.2.2.2.1
theorem d_M_harmBy_64 : decode prog_10_method_55_code 64 = .ok (.getfield 26, 3) := dd_M_harmBy_45.2.2.2.2.2.2.2.2.2.2.2.1
theorem d_M_harmBy_67 : decode prog_10_method_55_code 67 = .ok (.iconst 0, 1) := dd_M_harmBy_45.2.2.2.2.2.2.2.2.2.2.2.2.1
theorem d_M_harmBy_68 : decode prog_10_method_55_code 68 = .ok (.iaload, 1) := dd_M_harmBy_45.2.2.2.2.2.2.2.2.2.2.2.2.2.1
theorem d_M_harmBy_69 : decode prog_10_method_55_code 69 = .ok (.iadd, 1) := dd_M_harmBy_45.2.2.2.2.2.2.2.2.2.2.2.2.2.2.1
theorem d_M_harmBy_70 : decode prog_10_method_55_code 70 = .ok (.imul, 1) := dd_M_harmBy_45.2.2.2.2.2.2.2.2.2.2.2.2.2.2.2.1
theorem d_M_harmBy_71 : decode prog_10_method_55_code 71 = .ok (.iload 6, 2) := dd_M_harmBy_45.2.2.2.2.2.2.2.2.2.2.2.2.2.2.2.2.1
theorem d_M_harmBy_73 : decode prog_10_method_55_code 73 = .ok (.aload_n 0, 1) := dd_M_harmBy_45.2.2.2.2.2.2.2.2.2.2.2.2.2.2.2.2.2.1
theorem d_M_harmBy_74 : decode prog_10_method_55_code 74 = .ok (.getfield 20, 3) := dd_M_harmBy_45.2.2.2.2.2.2.2.2.2.2.2.2.2.2.2.2.2.2.1
theorem d_M_harmBy_77 : decode prog_10_method_55_code 77 = .ok (.iload_n 1, 1) := dd_M_harmBy_45.2.2.2.2.2.2.2.2.2.2.2.2.2.2.2.2.2.2.2.1
theorem d_M_harmBy_78 : decode prog_10_method_55_code 78 = .ok (.iaload, 1) := dd_M_harmBy_45.2.2.2.2.2.2.2.2.2.2.2.2.2.2.2.2.2.2.2.2.1
theorem d_M_harmBy_79 : decode prog_10_method_55_code 79 = .ok (.aload_n 0, 1) := dd_M_harmBy_45.2.2.2.2.2.2.2.2.2.2.2.2.2.2.2.2.2.2.2.2.2.1
theorem d_M_harmBy_80 : decode prog_10_method_55_code 80 = .ok (.getfield 26, 3) := dd_M_harmBy_45.2.2.2.2.2.2.2.2.2.2.2.2.2.2.2.2.2.2.2.2.2.2.1
theorem d_M_harmBy_83 : decode prog_10_method_55_code 83 = .ok (.iconst 1, 1) := dd_M_harmBy_45.2.2.2.2.2.2.2.2.2.2.2.2.2.2.2.2.2.2.2.2.2.2.2
set_option maxRecDepth 100000 in
theorem dd_M_harmBy_84 : (decode prog_10_method_55_code 84 = .ok (.iaload, 1)) ∧ (decode prog_10_method_55_code 85 = .ok (.iadd, 1)) ∧ (decode prog_10_method_55_code 86 = .ok (.imul, 1)) ∧ (decode prog_10_method_55_code 87 = .ok (.iadd, 1)) ∧ (decode prog_10_method_55_code 88 = .ok (.iload 7, 2)) ∧ (decode prog_10_method_55_code 90 = .ok (.aload_n 0, 1)) ∧ (decode prog_10_method_55_code 91 = .ok (.getfield 20, 3)) ∧ (decode prog_10_method_55_code 94 = .ok (.iload_n 1, 1)) ∧ (decode prog_10_method_55_code 95 = .ok (.iaload, 1)) ∧ (decode prog_10_method_55_code 96 = .ok (.aload_n 0, 1)) ∧ (decode prog_10_method_55_code 97 = .ok (.getfield 26, 3)) ∧ (decode prog_10_method_55_code 100 = .ok (.iconst 2, 1)) ∧ (decode prog_10_method_55_code 101 = .ok (.iaload, 1)) ∧ (decode prog_10_method_55_code 102 = .ok (.iadd, 1)) ∧ (decode prog_10_method_55_code 103 = .ok (.imul, 1)) ∧ (decode prog_10_method_55_code 104 = .ok (.iadd, 1)) ∧ (decode prog_10_method_55_code 105 = .ok (.istore 8, 2)) ∧ (decode prog_10_method_55_code 107 = .ok (.aload_n 0, 1)) ∧ (decode prog_10_method_55_code 108 = .ok (.getfield 53, 3)) ∧ (decode prog_10_method_55_code 111 = .ok (.iload_n 1, 1)) ∧ (decode prog_10_method_55_code 112 = .ok (.iconst 1, 1)) ∧ (decode prog_10_method_55_code 113 = .ok (.iadd, 1)) ∧ (decode prog_10_method_55_code 114 = .ok (.iload_n 2, 1)) ∧ (decode prog_10_method_55_code 115 = .ok (.iload 5, 2)) := by
  have h : List.drop 84 prog_10_method_55_code.data.toList = 0x2e :: _ := rfl
  refine ⟨zq_k_n 46 h rfl (zq_o_46 _), ?_⟩
  replace h := zq_nx1 (q := 85) h rfl
  refine ⟨zq_k_n 96 h rfl (zq_o_96 _), ?_⟩
  replace h := zq_nx1 (q := 86) h rfl
  refine ⟨zq_k_n 104 h rfl (zq_o_104 _), ?_⟩
  replace h := zq_nx1 (q := 87) h rfl
  refine ⟨zq_k_n 96 h rfl (zq_o_96 _), ?_⟩
  replace h := zq_nx1 (q := 88) h rfl
  refine ⟨zq_k_u1 21 (fun z => .iload z) 7 h rfl (zq_o_21 _) (by decide +kernel), ?_⟩
  replace h := zq_nx2 (q := 90) h rfl
  refine ⟨zq_k_n 42 h rfl (zq_o_42 _), ?_⟩
  replace h := zq_nx1 (q := 91) h rfl
  refine ⟨zq_k_u2 180 (fun z => .getfield z) 20 h rfl (zq_o_180 _) (by decide +kernel), ?_⟩
  replace h := zq_nx3 (q := 94) h rfl
  refine ⟨zq_k_n 27 h rfl (zq_o_27 _), ?_⟩
  replace h := zq_nx1 (q := 95) h rfl
  refine ⟨zq_k_n 46 h rfl (zq_o_46 _), ?_⟩
  replace h := zq_nx1 (q := 96) h rfl
  refine ⟨zq_k_n 42 h rfl (zq_o_42 _), ?_⟩
  replace h := zq_nx1 (q := 97) h rfl
  refine ⟨zq_k_u2 180 (fun z => .getfield z) 26 h rfl (zq_o_180 _) (by decide +kernel), ?_⟩
  replace h := zq_nx3 (q := 100) h rfl
  refine ⟨zq_k_n 5 h rfl (zq_o_5 _), ?_⟩
  replace h := zq_nx1 (q := 101) h rfl
  refine ⟨zq_k_n 46 h rfl (zq_o_46 _), ?_⟩
  replace h := zq_nx1 (q := 102) h rfl
  refine ⟨zq_k_n 96 h rfl (zq_o_96 _), ?_⟩
  replace h := zq_nx1 (q := 103) h rfl
  refine ⟨zq_k_n 104 h rfl (zq_o_104 _), ?_⟩
  replace h := zq_nx1 (q := 104) h rfl
  refine ⟨zq_k_n 96 h rfl (zq_o_96 _), ?_⟩
  replace h := zq_nx1 (q := 105) h rfl
  refine ⟨zq_k_u1 54 (fun z => .istore z) 8 h rfl (zq_o_54 _) (by decide +kernel), ?_⟩
  replace h := zq_nx2 (q := 107) h rfl
  refine ⟨zq_k_n 42 h rfl (zq_o_42 _), ?_⟩
  replace h := zq_nx1 (q := 108) h rfl
  refine ⟨zq_k_u2 180 (fun z => .getfield z) 53 h rfl (zq_o_180 _) (by decide +kernel), ?_⟩
  replace h := zq_nx3 (q := 111) h rfl
  refine ⟨zq_k_n 27 h rfl (zq_o_27 _), ?_⟩
  replace h := zq_nx1 (q := 112) h rfl
  refine ⟨zq_k_n 4 h rfl (zq_o_4 _), ?_⟩
  replace h := zq_nx1 (q := 113) h rfl
  refine ⟨zq_k_n 96 h rfl (zq_o_96 _), ?_⟩
  replace h := zq_nx1 (q := 114) h rfl
  refine ⟨zq_k_n 28 h rfl (zq_o_28 _), ?_⟩
  replace h := zq_nx1 (q := 115) h rfl
  exact zq_k_u1 21 (fun z => .iload z) 5 h rfl (zq_o_21 _) (by decide +kernel)
theorem d_M_harmBy_84 : decode prog_10_method_55_code 84 = .ok (.iaload, 1) := dd_M_harmBy_84.1
theorem d_M_harmBy_85 : decode prog_10_method_55_code 85 = .ok (.iadd, 1) := dd_M_harmBy_84.2.1
theorem d_M_harmBy_86 : decode prog_10_method_55_code 86 = .ok (.imul, 1) := dd_M_harmBy_84.2.2.1
theorem d_M_harmBy_87 : decode prog_10_method_55_code 87 = .ok (.iadd, 1) := dd_M_harmBy_84.2.2.2.1
theorem d_M_harmBy_88 : decode prog_10_method_55_code 88 = .ok (.iload 7, 2) := dd_M_harmBy_84.2.2.2.2.1
theorem d_M_harmBy_90 : decode prog_10_method_55_code 90 = .ok (.aload_n 0, 1) := dd_M_harmBy_84.2.2.2.2.2.1
theorem d_M_harmBy_91 : decode prog_10_method_55_code 91 = .ok (.getfield 20, 3) := dd_M_harmBy_84.2.2.2.2.2.2.1
theorem d_M_harmBy_94 : decode prog_10_method_55_code 94 = .ok (.iload_n 1, 1) := dd_M_harmBy_84.2.2.2.2.2.2.2.1
theorem d_M_harmBy_95 : decode prog_10_method_55_code 95 = .ok (.iaload, 1) := dd_M_harmBy_84.2.2.2.2.2.2.2.2.1
theorem d_M_harmBy_96 : decode prog_10_method_55_code 96 = .ok (.aload_n 0, 1) := dd_M_harmBy_84.2.2.2.2.2.2.2.2.2.1
theorem d_M_harmBy_97 : decode prog_10_method_55_code 97 = .ok (.getfield 26, 3) := dd_M_harmBy_84.2.2.2.2.2.2.2.2.2.2.1
theorem d_M_harmBy_100 : decode prog_10_method_55_code 100 = .ok (.iconst 2, 1) := dd_M_harmBy_84.2.2.2.2.2.2.2.2.2.2.2.1
theorem d_M_harmBy_101 : decode prog_10_method_55_code 101 = .ok (.iaload, 1) := dd_M_harmBy_84.2.2.2.2.2.2.2.2.2.2.2.2.1
theorem d_M_harmBy_102 : decode prog_10_method_55_code 102 = .ok (.iadd, 1) := dd_M_harmBy_84.2.2.2.2.2.2.2.2.2.2.2.2.2.1
theorem d_M_harmBy_103 : decode prog_10_method_55_code 103 = .ok (.imul, 1) := dd_M_harmBy_84.2.2.2.2.2.2.2.2.2.2.2.2.2.2.1
theorem d_M_harmBy_104 : decode prog_10_method_55_code 104 = .ok (.iadd, 1) := dd_M_harmBy_84.2.2.2.2.2.2.2.2.2.2.2.2.2.2.2.1
theorem d_M_harmBy_105 : decode prog_10_method_55_code 105 = .ok (.istore 8, 2) := dd_M_harmBy_84.2.2.2.2.2.2.2.2.2.2.2.2.2.2.2.2.1
theorem d_M_harmBy_107 : decode prog_10_method_55_code 107 = .ok (.aload_n 0, 1) := dd_M_harmBy_84.2.2.2.2.2.2.2.2.2.2.2.2.2.2.2.2.2.1
theorem d_M_harmBy_108 : decode prog_10_method_55_code 108 = .ok (.getfield 53, 3) := dd_M_harmBy_84.2.2.2.2.2.2.2.2.2.2.2.2.2.2.2.2.2.2.1
theorem d_M_harmBy_111 : decode prog_10_method_55_code 111 = .ok (.iload_n 1, 1) := dd_M_harmBy_84.2.2.2.2.2.2.2.2.2.2.2.2.2.2.2.2.2.2.2.1
theorem d_M_harmBy_112 : decode prog_10_method_55_code 112 = .ok (.iconst 1, 1) := dd_M_harmBy_84.2.2.2.2.2.2.2.2.2.2.2.2.2.2.2.2.2.2.2.2.1
theorem d_M_harmBy_113 : decode prog_10_method_55_code 113 = .ok (.iadd, 1) := dd_M_harmBy_84.2.2.2.2.2.2.2.2.2.2.2.2.2.2.2.2.2.2.2.2.2.1
theorem d_M_harmBy_114 : decode prog_10_method_55_code 114 = .ok (.iload_n 2, 1) := dd_M_harmBy_84.2.2.2.2.2.2.2.2.2.2.2.2.2.2.2.2.2.2.2.2.2.2.1
theorem d_M_harmBy_115 : decode prog_10_method_55_code 115 = .ok (.iload 5, 2) := dd_M_harmBy_84.2.2.2.2.2.2.2.2.2.2.2.2.2.2.2.2.2.2.2.2.2.2.2
set_option maxRecDepth 100000 in
theorem dd_M_harmBy_117 : (decode prog_10_method_55_code 117 = .ok (.isub, 1)) ∧ (decode prog_10_method_55_code 118 = .ok (.iload_n 3, 1)) ∧ (decode prog_10_method_55_code 119 = .ok (.iload 6, 2)) ∧ (decode prog_10_method_55_code 121 = .ok (.isub, 1)) ∧ (decode prog_10_method_55_code 122 = .ok (.iload 4, 2)) ∧ (decode prog_10_method_55_code 124 = .ok (.iload 7, 2)) ∧ (decode prog_10_method_55_code 126 = .ok (.isub, 1)) ∧ (decode prog_10_method_55_code 127 = .ok (.invokestatic 247, 3)) ∧ (decode prog_10_method_55_code 130 = .ok (.iaload, 1)) ∧ (decode prog_10_method_55_code 131 = .ok (.istore 9, 2)) ∧ (decode prog_10_method_55_code 133 = .ok (.iload 9, 2)) ∧ (decode prog_10_method_55_code 135 = .ok (.ldc 246, 2)) ∧ (decode prog_10_method_55_code 137 = .ok (.if_icmp .ne 8, 3)) ∧ (decode prog_10_method_55_code 140 = .ok (.ldc 246, 2)) ∧ (decode prog_10_method_55_code 142 = .ok (.goto 8, 3)) ∧ (decode prog_10_method_55_code 145 = .ok (.iload 8, 2)) ∧ (decode prog_10_method_55_code 147 = .ok (.iload 9, 2)) ∧ (decode prog_10_method_55_code 149 = .ok (.iadd, 1)) ∧ (decode prog_10_method_55_code 150 = .ok (.ireturn, 1)) := by
  have h : List.drop 117 prog_10_method_55_code.data.toList = 0x64 :: _ := rfl
  refine ⟨zq_k_n 100 h rfl (zq_o_100 _), ?_⟩
  replace h := zq_nx1 (q := 118) h rfl
  refine ⟨zq_k_n 29 h rfl (zq_o_29 _), ?_⟩
  replace h := zq_nx1 (q := 119) h rfl
  refine ⟨zq_k_u1 21 (fun z => .iload z) 6 h rfl (zq_o_21 _) (by decide +kernel), ?_⟩
  replace h := zq_nx2 (q := 121) h rfl
  refine ⟨zq_k_n 100 h rfl (zq_o_100 _), ?_⟩
  replace h := zq_nx1 (q := 122) h rfl
  refine ⟨zq_k_u1 21 (fun z => .iload z) 4 h rfl (zq_o_21 _) (by decide +kernel), ?_⟩
  replace h := zq_nx2 (q := 124) h rfl
  refine ⟨zq_k_u1 21 (fun z => .iload z) 7 h rfl (zq_o_21 _) (by decide +kernel), ?_⟩
  replace h := zq_nx2 (q := 126) h rfl
  refine ⟨zq_k_n 100 h rfl (zq_o_100 _), ?_⟩
  replace h := zq_nx1 (q := 127) h rfl
  refine ⟨zq_k_u2 184 (fun z => .invokestatic z) 247 h rfl (zq_o_184 _) (by decide +kernel), ?_⟩
  replace h := zq_nx3 (q := 130) h rfl
  refine ⟨zq_k_n 46 h rfl (zq_o_46 _), ?_⟩
  replace h := zq_nx1 (q := 131) h rfl
  refine ⟨zq_k_u1 54 (fun z => .istore z) 9 h rfl (zq_o_54 _) (by decide +kernel), ?_⟩
  replace h := zq_nx2 (q := 133) h rfl
  refine ⟨zq_k_u1 21 (fun z => .iload z) 9 h rfl (zq_o_21 _) (by decide +kernel), ?_⟩
  replace h := zq_nx2 (q := 135) h rfl
  refine ⟨zq_k_u1 18 (fun z => .ldc z) 246 h rfl (zq_o_18 _) (by decide +kernel), ?_⟩
  replace h := zq_nx2 (q := 137) h rfl
  refine ⟨zq_k_s2 160 (fun z => .if_icmp .ne z) 8 h rfl (zq_o_160 _) (by decide +kernel), ?_⟩
  replace h := zq_nx3 (q := 140) h rfl
  refine ⟨zq_k_u1 18 (fun z => .ldc z) 246 h rfl (zq_o_18 _) (by decide +kernel), ?_⟩
  replace h := zq_nx2 (q := 142) h rfl
  refine ⟨zq_k_s2 167 (fun z => .goto z) 8 h rfl (zq_o_167 _) (by decide +kernel), ?_⟩
  replace h := zq_nx3 (q := 145) h rfl
  refine ⟨zq_k_u1 21 (fun z => .iload z) 8 h rfl (zq_o_21 _) (by decide +kernel), ?_⟩
  replace h := zq_nx2 (q := 147) h rfl
  refine ⟨zq_k_u1 21 (fun z => .iload z) 9 h rfl (zq_o_21 _) (by decide +kernel), ?_⟩
  replace h := zq_nx2 (q := 149) h rfl
  refine ⟨zq_k_n 96 h rfl (zq_o_96 _), ?_⟩
  replace h := zq_nx1 (q := 150) h rfl
  exact zq_k_n 172 h rfl (zq_o_172 _)
theorem d_M_harmBy_117 : decode prog_10_method_55_code 117 = .ok (.isub, 1) := dd_M_harmBy_117.1
theorem d_M_harmBy_118 : decode prog_10_method_55_code 118 = .ok (.iload_n 3, 1) := dd_M_harmBy_117.2.1
theorem d_M_harmBy_119 : decode prog_10_method_55_code 119 = .ok (.iload 6, 2) := dd_M_harmBy_117.2.2.1
theorem d_M_harmBy_121 : decode prog_10_method_55_code 121 = .ok (.isub, 1) := dd_M_harmBy_117.2.2.2.1
theorem d_M_harmBy_122 : decode prog_10_method_55_code 122 = .ok (.iload 4, 2) := dd_M_harmBy_117.2.2.2.2.1
theorem d_M_harmBy_124 : decode prog_10_method_55_code 124 = .ok (.iload 7, 2) := dd_M_harmBy_117.2.2.2.2.2.1
theorem d_M_harmBy_126 : decode prog_10_method_55_code 126 = .ok (.isub, 1) := dd_M_harmBy_117.2.2.2.2.2.2.1
theorem d_M_harmBy_127 : decode prog_10_method_55_code 127 = .ok (.invokestatic 247, 3) := dd_M_harmBy_117.2.2.2.2.2.2.2.1
theorem d_M_harmBy_130 : decode prog_10_method_55_code 130 = .ok (.iaload, 1) := dd_M_harmBy_117.2.2.2.2.2.2.2.2.1
theorem d_M_harmBy_131 : decode prog_10_method_55_code 131 = .ok (.istore 9, 2) := dd_M_harmBy_117.2.2.2.2.2.2.2.2.2.1
theorem d_M_harmBy_133 : decode prog_10_method_55_code 133 = .ok (.iload 9, 2) := dd_M_harmBy_117.2.2.2.2.2.2.2.2.2.2.1
theorem d_M_harmBy_135 : decode prog_10_method_55_code 135 = .ok (.ldc 246, 2) := dd_M_harmBy_117.2.2.2.2.2.2.2.2.2.2.2.1
theorem d_M_harmBy_137 : decode prog_10_method_55_code 137 = .ok (.if_icmp .ne 8, 3) := dd_M_harmBy_117.2.2.2.2.2.2.2.2.2.2.2.2.1
theorem d_M_harmBy_140 : decode prog_10_method_55_code 140 = .ok (.ldc 246, 2) := dd_M_harmBy_117.2.2.2.2.2.2.2.2.2.2.2.2.2.1
theorem d_M_harmBy_142 : decode prog_10_method_55_code 142 = .ok (.goto 8, 3) := dd_M_harmBy_117.2.2.2.2.2.2.2.2.2.2.2.2.2.2.1
theorem d_M_harmBy_145 : decode prog_10_method_55_code 145 = .ok (.iload 8, 2) := dd_M_harmBy_117.2.2.2.2.2.2.2.2.2.2.2.2.2.2.2.1
theorem d_M_harmBy_147 : decode prog_10_method_55_code 147 = .ok (.iload 9, 2) := dd_M_harmBy_117.2.2.2.2.2.2.2.2.2.2.2.2.2.2.2.2.1
theorem d_M_harmBy_149 : decode prog_10_method_55_code 149 = .ok (.iadd, 1) := dd_M_harmBy_117.2.2.2.2.2.2.2.2.2.2.2.2.2.2.2.2.2.1
theorem d_M_harmBy_150 : decode prog_10_method_55_code 150 = .ok (.ireturn, 1) := dd_M_harmBy_117.2.2.2.2.2.2.2.2.2.2.2.2.2.2.2.2.2.2
def f_M_harmBy_52   (h : mH) : Option (Int32 × mH) :=
  some ((1000000 : Int32), h)
set_option maxRecDepth 20000 in
theorem t_M_harmBy_52 {sc : Nat × (Nat → Int32)}   (h : mH) (r : Int32) (h' : mH) (hf : f_M_harmBy_52   h = some (r, h')) : G sc y_M_harmBy prog_10_method_55_code 10 (some .int) 3 68 52 [] [] h (some (.int r)) h' := by
  unfold f_M_harmBy_52 at hf
  refine g_ldc (pc := 52) (1000000 : Int32) d_M_harmBy_52 wd_1272 ?_
  obtain ⟨rfl, rfl⟩ := ret2 hf
  exact g_iret (pc := 54) rfl d_M_harmBy_54
def f_M_harmBy_0  (a0 : Nat) (a1 : Int32) (a2 : Int32) (a3 : Int32) (a4 : Int32) (a5 : Int32) (a6 : Int32) (a7 : Int32) (h : mH) : Option (Int32 × mH) :=
  if a2 < a5 then
    f_M_harmBy_52  h
  else
    if a3 < a6 then
      f_M_harmBy_52  h
    else
      if a4 < a7 then
        f_M_harmBy_52  h
      else
        bd1 (kC h a0 8) fun _ =>
        bd2 (f_M_roomAt a0 (0 : Int32) a1 h) fun x5 h3 =>
        if x5 < a5 then
          f_M_harmBy_52  h3
        else
          bd1 (kC h3 a0 8) fun _ =>
          bd2 (f_M_roomAt a0 (1 : Int32) a1 h3) fun x10 h8 =>
          if x10 < a6 then
            f_M_harmBy_52  h8
          else
            bd1 (kC h8 a0 8) fun _ =>
            bd2 (f_M_roomAt a0 (2 : Int32) a1 h8) fun x15 h13 =>
            if a7 ≤ x15 then
              bd1 (gR h13 a0 8 5) fun x16 =>
              bd1 (aI h13 0 x16 a1) fun x18 =>
              bd1 (gR h13 a0 8 7) fun x20 =>
              bd1 (aI h13 0 x20 (0 : Int32)) fun x22 =>
              bd1 (gR h13 a0 8 5) fun x24 =>
              bd1 (aI h13 0 x24 a1) fun x26 =>
              bd1 (gR h13 a0 8 7) fun x28 =>
              bd1 (aI h13 0 x28 (1 : Int32)) fun x30 =>
              bd1 (gR h13 a0 8 5) fun x32 =>
              bd1 (aI h13 0 x32 a1) fun x34 =>
              bd1 (gR h13 a0 8 7) fun x36 =>
              bd1 (aI h13 0 x36 (2 : Int32)) fun x38 =>
              bd1 (gR h13 a0 8 27) fun x40 =>
              bd2 (f_M_at (a1 + (1 : Int32)) (a2 - a5) (a3 - a6) (a4 - a7) h13) fun x44 h42 =>
              bd1 (aI h42 0 x40 x44) fun x45 =>
              if x45 = (1000000 : Int32) then
                some ((1000000 : Int32), h42)
              else
                some ((((a5 * (x18 + x22)) + (a6 * (x26 + x30))) + (a7 * (x34 + x38))) + x45, h42)
            else
              f_M_harmBy_52  h13
set_option maxRecDepth 20000 in
theorem t_M_harmBy_0 {sc : Nat × (Nat → Int32)}  (a0 : Nat) (a1 : Int32) (a2 : Int32) (a3 : Int32) (a4 : Int32) (a5 : Int32) (a6 : Int32) (a7 : Int32) (h : mH) (r : Int32) (h' : mH) (hf : f_M_harmBy_0  a0 a1 a2 a3 a4 a5 a6 a7 h = some (r, h')) : G sc y_M_harmBy prog_10_method_55_code 10 (some .int) 3 68 0 [(0, .ref a0), (1, .int a1), (2, .int a2), (3, .int a3), (4, .int a4), (5, .int a5), (6, .int a6), (7, .int a7)] [] h (some (.int r)) h' := by
  unfold f_M_harmBy_0 at hf
  refine g_iload (pc := 0) 5 d_M_harmBy_0 rfl ?_
  refine g_iload_n (pc := 2) 2 d_M_harmBy_2 rfl rfl ?_
  refine g_icmpgt (pc := 3) 52 d_M_harmBy_3 (by decide) (fun c53 => ?_) (fun c53 => ?_)
  · replace hf := (if_pos c53).symm.trans hf
    refine g_lv [] rfl ?_
    exact t_M_harmBy_52  _ _ _  hf
  · replace hf := (if_neg c53).symm.trans hf
    refine g_iload (pc := 6) 6 d_M_harmBy_6 rfl ?_
    refine g_iload_n (pc := 8) 3 d_M_harmBy_8 rfl rfl ?_
    refine g_icmpgt (pc := 9) 52 d_M_harmBy_9 (by decide) (fun c52 => ?_) (fun c52 => ?_)
    · replace hf := (if_pos c52).symm.trans hf
      refine g_lv [] rfl ?_
      exact t_M_harmBy_52  _ _ _  hf
    · replace hf := (if_neg c52).symm.trans hf
      refine g_iload (pc := 12) 7 d_M_harmBy_12 rfl ?_
      refine g_iload (pc := 14) 4 d_M_harmBy_14 rfl ?_
      refine g_icmpgt (pc := 16) 52 d_M_harmBy_16 (by decide) (fun c51 => ?_) (fun c51 => ?_)
      · replace hf := (if_pos c51).symm.trans hf
        refine g_lv [] rfl ?_
        exact t_M_harmBy_52  _ _ _  hf
      · replace hf := (if_neg c51).symm.trans hf
        refine g_iload (pc := 19) 5 d_M_harmBy_19 rfl ?_
        refine g_aload_n (pc := 21) 0 d_M_harmBy_21 rfl rfl ?_
        refine g_iconst (pc := 22) (0 : Int32) d_M_harmBy_22 (by decide) ?_
        refine g_iload_n (pc := 23) 1 d_M_harmBy_23 rfl rfl ?_
        obtain ⟨u2, e1, hf⟩ := bd1_e hf
        obtain ⟨x5, h3, e4, hf⟩ := bd2_e hf
        refine g_callV (pc := 24) (ci := 8) [.int (0 : Int32), .int a1] (site_of si_M_roomAt (by decide) (by decide)) wd_1278 wd_1280 wp_61 d_M_harmBy_24 rfl e1 (Nat.le_of_ble_eq_true rfl) (fun z => absurd z (by decide)) (fun z => absurd z (by decide)) (fun z => absurd z (by decide)) (c_M_roomAt e4) rfl ?_
        refine g_st [.int x5, .int a5] rfl ?_
        refine g_icmpgt (pc := 27) 52 d_M_harmBy_27 (by decide) (fun c50 => ?_) (fun c50 => ?_)
        · replace hf := (if_pos c50).symm.trans hf
          refine g_lv [] rfl ?_
          exact t_M_harmBy_52  _ _ _  hf
        · replace hf := (if_neg c50).symm.trans hf
          refine g_iload (pc := 30) 6 d_M_harmBy_30 rfl ?_
          refine g_aload_n (pc := 32) 0 d_M_harmBy_32 rfl rfl ?_
          refine g_iconst (pc := 33) (1 : Int32) d_M_harmBy_33 (by decide) ?_
          refine g_iload_n (pc := 34) 1 d_M_harmBy_34 rfl rfl ?_
          obtain ⟨u7, e6, hf⟩ := bd1_e hf
          obtain ⟨x10, h8, e9, hf⟩ := bd2_e hf
          refine g_callV (pc := 35) (ci := 8) [.int (1 : Int32), .int a1] (site_of si_M_roomAt (by decide) (by decide)) wd_1278 wd_1280 wp_61 d_M_harmBy_35 rfl e6 (Nat.le_of_ble_eq_true rfl) (fun z => absurd z (by decide)) (fun z => absurd z (by decide)) (fun z => absurd z (by decide)) (c_M_roomAt e9) rfl ?_
          refine g_st [.int x10, .int a6] rfl ?_
          refine g_icmpgt (pc := 38) 52 d_M_harmBy_38 (by decide) (fun c49 => ?_) (fun c49 => ?_)
          · replace hf := (if_pos c49).symm.trans hf
            refine g_lv [] rfl ?_
            exact t_M_harmBy_52  _ _ _  hf
          · replace hf := (if_neg c49).symm.trans hf
            refine g_iload (pc := 41) 7 d_M_harmBy_41 rfl ?_
            refine g_aload_n (pc := 43) 0 d_M_harmBy_43 rfl rfl ?_
            refine g_iconst (pc := 44) (2 : Int32) d_M_harmBy_44 (by decide) ?_
            refine g_iload_n (pc := 45) 1 d_M_harmBy_45 rfl rfl ?_
            obtain ⟨u12, e11, hf⟩ := bd1_e hf
            obtain ⟨x15, h13, e14, hf⟩ := bd2_e hf
            refine g_callV (pc := 46) (ci := 8) [.int (2 : Int32), .int a1] (site_of si_M_roomAt (by decide) (by decide)) wd_1278 wd_1280 wp_61 d_M_harmBy_46 rfl e11 (Nat.le_of_ble_eq_true rfl) (fun z => absurd z (by decide)) (fun z => absurd z (by decide)) (fun z => absurd z (by decide)) (c_M_roomAt e14) rfl ?_
            refine g_st [.int x15, .int a7] rfl ?_
            refine g_icmple (pc := 49) 55 d_M_harmBy_49 (by decide) (fun c48 => ?_) (fun c48 => ?_)
            · replace hf := (if_pos c48).symm.trans hf
              refine g_iload (pc := 55) 5 d_M_harmBy_55 rfl ?_
              refine g_aload_n (pc := 57) 0 d_M_harmBy_57 rfl rfl ?_
              obtain ⟨x16, e17, hf⟩ := bd1_e hf
              refine g_get (pc := 58) (ci := 8) (kk := 5) d_M_harmBy_58 rfl in_M (by decide) wd_943 (gR_spec e17) ?_
              refine g_iload_n (pc := 61) 1 d_M_harmBy_61 rfl rfl ?_
              obtain ⟨x18, e19, hf⟩ := bd1_e hf
              refine g_iald (pc := 62) d_M_harmBy_62 e19 ?_
              refine g_aload_n (pc := 63) 0 d_M_harmBy_63 rfl rfl ?_
              obtain ⟨x20, e21, hf⟩ := bd1_e hf
              refine g_get (pc := 64) (ci := 8) (kk := 7) d_M_harmBy_64 rfl in_M (by decide) wd_945 (gR_spec e21) ?_
              refine g_iconst (pc := 67) (0 : Int32) d_M_harmBy_67 (by decide) ?_
              obtain ⟨x22, e23, hf⟩ := bd1_e hf
              refine g_iald (pc := 68) d_M_harmBy_68 e23 ?_
              refine g_iadd (pc := 69) d_M_harmBy_69 ?_
              refine g_imul (pc := 70) d_M_harmBy_70 ?_
              refine g_iload (pc := 71) 6 d_M_harmBy_71 rfl ?_
              refine g_aload_n (pc := 73) 0 d_M_harmBy_73 rfl rfl ?_
              obtain ⟨x24, e25, hf⟩ := bd1_e hf
              refine g_get (pc := 74) (ci := 8) (kk := 5) d_M_harmBy_74 rfl in_M (by decide) wd_943 (gR_spec e25) ?_
              refine g_iload_n (pc := 77) 1 d_M_harmBy_77 rfl rfl ?_
              obtain ⟨x26, e27, hf⟩ := bd1_e hf
              refine g_iald (pc := 78) d_M_harmBy_78 e27 ?_
              refine g_aload_n (pc := 79) 0 d_M_harmBy_79 rfl rfl ?_
              obtain ⟨x28, e29, hf⟩ := bd1_e hf
              refine g_get (pc := 80) (ci := 8) (kk := 7) d_M_harmBy_80 rfl in_M (by decide) wd_945 (gR_spec e29) ?_
              refine g_iconst (pc := 83) (1 : Int32) d_M_harmBy_83 (by decide) ?_
              obtain ⟨x30, e31, hf⟩ := bd1_e hf
              refine g_iald (pc := 84) d_M_harmBy_84 e31 ?_
              refine g_iadd (pc := 85) d_M_harmBy_85 ?_
              refine g_imul (pc := 86) d_M_harmBy_86 ?_
              refine g_iadd (pc := 87) d_M_harmBy_87 ?_
              refine g_iload (pc := 88) 7 d_M_harmBy_88 rfl ?_
              refine g_aload_n (pc := 90) 0 d_M_harmBy_90 rfl rfl ?_
              obtain ⟨x32, e33, hf⟩ := bd1_e hf
              refine g_get (pc := 91) (ci := 8) (kk := 5) d_M_harmBy_91 rfl in_M (by decide) wd_943 (gR_spec e33) ?_
              refine g_iload_n (pc := 94) 1 d_M_harmBy_94 rfl rfl ?_
              obtain ⟨x34, e35, hf⟩ := bd1_e hf
              refine g_iald (pc := 95) d_M_harmBy_95 e35 ?_
              refine g_aload_n (pc := 96) 0 d_M_harmBy_96 rfl rfl ?_
              obtain ⟨x36, e37, hf⟩ := bd1_e hf
              refine g_get (pc := 97) (ci := 8) (kk := 7) d_M_harmBy_97 rfl in_M (by decide) wd_945 (gR_spec e37) ?_
              refine g_iconst (pc := 100) (2 : Int32) d_M_harmBy_100 (by decide) ?_
              obtain ⟨x38, e39, hf⟩ := bd1_e hf
              refine g_iald (pc := 101) d_M_harmBy_101 e39 ?_
              refine g_iadd (pc := 102) d_M_harmBy_102 ?_
              refine g_imul (pc := 103) d_M_harmBy_103 ?_
              refine g_iadd (pc := 104) d_M_harmBy_104 ?_
              refine g_istore (pc := 105) [(8, .int (((a5 * (x18 + x22)) + (a6 * (x26 + x30))) + (a7 * (x34 + x38)))), (0, .ref a0), (1, .int a1), (2, .int a2), (3, .int a3), (4, .int a4), (5, .int a5), (6, .int a6), (7, .int a7)] d_M_harmBy_105 (Nat.le_of_ble_eq_true rfl) rfl ?_
              refine g_aload_n (pc := 107) 1 d_M_harmBy_107 rfl rfl ?_
              obtain ⟨x40, e41, hf⟩ := bd1_e hf
              refine g_get (pc := 108) (ci := 8) (kk := 27) d_M_harmBy_108 rfl in_M (by decide) wd_965 (gR_spec e41) ?_
              refine g_iload_n (pc := 111) 2 d_M_harmBy_111 rfl rfl ?_
              refine g_iconst (pc := 112) (1 : Int32) d_M_harmBy_112 (by decide) ?_
              refine g_iadd (pc := 113) d_M_harmBy_113 ?_
              refine g_iload_n (pc := 114) 3 d_M_harmBy_114 rfl rfl ?_
              refine g_iload (pc := 115) 6 d_M_harmBy_115 rfl ?_
              refine g_isub (pc := 117) d_M_harmBy_117 ?_
              refine g_iload_n (pc := 118) 4 d_M_harmBy_118 rfl rfl ?_
              refine g_iload (pc := 119) 7 d_M_harmBy_119 rfl ?_
              refine g_isub (pc := 121) d_M_harmBy_121 ?_
              refine g_iload (pc := 122) 5 d_M_harmBy_122 rfl ?_
              refine g_iload (pc := 124) 8 d_M_harmBy_124 rfl ?_
              refine g_isub (pc := 126) d_M_harmBy_126 ?_
              obtain ⟨x44, h42, e43, hf⟩ := bd2_e hf
              refine g_callS (pc := 127) [.int (a1 + (1 : Int32)), .int (a2 - a5), .int (a3 - a6), .int (a4 - a7)] (site_of si_M_at (by decide) (by decide)) wd_1265 wd_1266 d_M_harmBy_127 (Nat.le_of_ble_eq_true rfl) (fun z => absurd z (by decide)) (fun z => absurd z (by decide)) (fun z => absurd z (by decide)) (c_M_at e43) rfl ?_
              refine g_st [.int x44, .ref x40] rfl ?_
              obtain ⟨x45, e46, hf⟩ := bd1_e hf
              refine g_iald (pc := 130) d_M_harmBy_130 e46 ?_
              refine g_istore (pc := 131) [(9, .int x45), (8, .int (((a5 * (x18 + x22)) + (a6 * (x26 + x30))) + (a7 * (x34 + x38)))), (0, .ref a0), (1, .int a1), (2, .int a2), (3, .int a3), (4, .int a4), (5, .int a5), (6, .int a6), (7, .int a7)] d_M_harmBy_131 (Nat.le_of_ble_eq_true rfl) rfl ?_
              refine g_iload (pc := 133) 0 d_M_harmBy_133 rfl ?_
              refine g_ldc (pc := 135) (1000000 : Int32) d_M_harmBy_135 wd_1272 ?_
              refine g_icmpne (pc := 137) 145 d_M_harmBy_137 (by decide) (fun c47 => ?_) (fun c47 => ?_)
              · replace hf := (if_neg c47).symm.trans hf
                refine g_iload (pc := 145) 1 d_M_harmBy_145 rfl ?_
                refine g_iload (pc := 147) 0 d_M_harmBy_147 rfl ?_
                refine g_iadd (pc := 149) d_M_harmBy_149 ?_
                obtain ⟨rfl, rfl⟩ := ret2 hf
                exact g_iret (pc := 150) rfl d_M_harmBy_150
              · replace hf := (if_pos c47).symm.trans hf
                refine g_ldc (pc := 140) (1000000 : Int32) d_M_harmBy_140 wd_1272 ?_
                refine g_goto (pc := 142) 150 d_M_harmBy_142 (by decide) ?_
                obtain ⟨rfl, rfl⟩ := ret2 hf
                exact g_iret (pc := 150) rfl d_M_harmBy_150
            · replace hf := (if_neg c48).symm.trans hf
              refine g_lv [] rfl ?_
              exact t_M_harmBy_52  _ _ _  hf
def f_M_harmBy (a0 : Nat) (a1 : Int32) (a2 : Int32) (a3 : Int32) (a4 : Int32) (a5 : Int32) (a6 : Int32) (a7 : Int32) (h : mH) : Option (Int32 × mH) := f_M_harmBy_0 a0 a1 a2 a3 a4 a5 a6 a7 h
theorem c_M_harmBy {sc : Nat × (Nat → Int32)} {a0 : Nat} {a1 : Int32} {a2 : Int32} {a3 : Int32} {a4 : Int32} {a5 : Int32} {a6 : Int32} {a7 : Int32} {h : mH} {r : Int32} {h' : mH} (hf : f_M_harmBy a0 a1 a2 a3 a4 a5 a6 a7 h = some (r, h')) : MM sc y_M_harmBy prog_10_method_55_code 10 (some .int) 3 68 [.ref a0, .int a1, .int a2, .int a3, .int a4, .int a5, .int a6, .int a7] h (some (.int r)) h' :=
  mm_of_G (by decide) (Nat.le_of_ble_eq_true rfl) (t_M_harmBy_0 _ _ _ _ _ _ _ _ _ _ _ hf)
/-! M leastOf (IIII)I -/
set_option maxRecDepth 100000 in
theorem dd_M_leastOf_0 : (decode prog_10_method_56_code 0 = .ok (.ldc 246, 2)) ∧ (decode prog_10_method_56_code 2 = .ok (.istore 5, 2)) ∧ (decode prog_10_method_56_code 4 = .ok (.iconst 0, 1)) ∧ (decode prog_10_method_56_code 5 = .ok (.istore 6, 2)) ∧ (decode prog_10_method_56_code 7 = .ok (.iload 6, 2)) ∧ (decode prog_10_method_56_code 9 = .ok (.iconst 3, 1)) ∧ (decode prog_10_method_56_code 10 = .ok (.if_icmp .gt 89, 3)) ∧ (decode prog_10_method_56_code 13 = .ok (.iconst 0, 1)) ∧ (decode prog_10_method_56_code 14 = .ok (.istore 7, 2)) ∧ (decode prog_10_method_56_code 16 = .ok (.iload 7, 2)) ∧ (decode prog_10_method_56_code 18 = .ok (.iconst 3, 1)) ∧ (decode prog_10_method_56_code 19 = .ok (.if_icmp .gt 74, 3)) ∧ (decode prog_10_method_56_code 22 = .ok (.aload_n 0, 1)) ∧ (decode prog_10_method_56_code 23 = .ok (.getfield 56, 3)) ∧ (decode prog_10_method_56_code 26 = .ok (.iload_n 1, 1)) ∧ (decode prog_10_method_56_code 27 = .ok (.iaload, 1)) ∧ (decode prog_10_method_56_code 28 = .ok (.iload 6, 2)) ∧ (decode prog_10_method_56_code 30 = .ok (.isub, 1)) ∧ (decode prog_10_method_56_code 31 = .ok (.iload 7, 2)) ∧ (decode prog_10_method_56_code 33 = .ok (.isub, 1)) ∧ (decode prog_10_method_56_code 34 = .ok (.istore 8, 2)) ∧ (decode prog_10_method_56_code 36 = .ok (.iload 8, 2)) ∧ (decode prog_10_method_56_code 38 = .ok (.i2l, 1)) ∧ (decode prog_10_method_56_code 39 = .ok (.lconst 0, 1)) := by
  have h : List.drop 0 prog_10_method_56_code.data.toList = 0x12 :: _ := rfl
  refine ⟨zq_k_u1 18 (fun z => .ldc z) 246 h rfl (zq_o_18 _) (by decide +kernel), ?_⟩
  replace h := zq_nx2 (q := 2) h rfl
  refine ⟨zq_k_u1 54 (fun z => .istore z) 5 h rfl (zq_o_54 _) (by decide +kernel), ?_⟩
  replace h := zq_nx2 (q := 4) h rfl
  refine ⟨zq_k_n 3 h rfl (zq_o_3 _), ?_⟩
  replace h := zq_nx1 (q := 5) h rfl
  refine ⟨zq_k_u1 54 (fun z => .istore z) 6 h rfl (zq_o_54 _) (by decide +kernel), ?_⟩
  replace h := zq_nx2 (q := 7) h rfl
  refine ⟨zq_k_u1 21 (fun z => .iload z) 6 h rfl (zq_o_21 _) (by decide +kernel), ?_⟩
  replace h := zq_nx2 (q := 9) h rfl
  refine ⟨zq_k_n 6 h rfl (zq_o_6 _), ?_⟩
  replace h := zq_nx1 (q := 10) h rfl
  refine ⟨zq_k_s2 163 (fun z => .if_icmp .gt z) 89 h rfl (zq_o_163 _) (by decide +kernel), ?_⟩
  replace h := zq_nx3 (q := 13) h rfl
  refine ⟨zq_k_n 3 h rfl (zq_o_3 _), ?_⟩
  replace h := zq_nx1 (q := 14) h rfl
  refine ⟨zq_k_u1 54 (fun z => .istore z) 7 h rfl (zq_o_54 _) (by decide +kernel), ?_⟩
  replace h := zq_nx2 (q := 16) h rfl
  refine ⟨zq_k_u1 21 (fun z => .iload z) 7 h rfl (zq_o_21 _) (by decide +kernel), ?_⟩
  replace h := zq_nx2 (q := 18) h rfl
  refine ⟨zq_k_n 6 h rfl (zq_o_6 _), ?_⟩
  replace h := zq_nx1 (q := 19) h rfl
  refine ⟨zq_k_s2 163 (fun z => .if_icmp .gt z) 74 h rfl (zq_o_163 _) (by decide +kernel), ?_⟩
  replace h := zq_nx3 (q := 22) h rfl
  refine ⟨zq_k_n 42 h rfl (zq_o_42 _), ?_⟩
  replace h := zq_nx1 (q := 23) h rfl
  refine ⟨zq_k_u2 180 (fun z => .getfield z) 56 h rfl (zq_o_180 _) (by decide +kernel), ?_⟩
  replace h := zq_nx3 (q := 26) h rfl
  refine ⟨zq_k_n 27 h rfl (zq_o_27 _), ?_⟩
  replace h := zq_nx1 (q := 27) h rfl
  refine ⟨zq_k_n 46 h rfl (zq_o_46 _), ?_⟩
  replace h := zq_nx1 (q := 28) h rfl
  refine ⟨zq_k_u1 21 (fun z => .iload z) 6 h rfl (zq_o_21 _) (by decide +kernel), ?_⟩
  replace h := zq_nx2 (q := 30) h rfl
  refine ⟨zq_k_n 100 h rfl (zq_o_100 _), ?_⟩
  replace h := zq_nx1 (q := 31) h rfl
  refine ⟨zq_k_u1 21 (fun z => .iload z) 7 h rfl (zq_o_21 _) (by decide +kernel), ?_⟩
  replace h := zq_nx2 (q := 33) h rfl
  refine ⟨zq_k_n 100 h rfl (zq_o_100 _), ?_⟩
  replace h := zq_nx1 (q := 34) h rfl
  refine ⟨zq_k_u1 54 (fun z => .istore z) 8 h rfl (zq_o_54 _) (by decide +kernel), ?_⟩
  replace h := zq_nx2 (q := 36) h rfl
  refine ⟨zq_k_u1 21 (fun z => .iload z) 8 h rfl (zq_o_21 _) (by decide +kernel), ?_⟩
  replace h := zq_nx2 (q := 38) h rfl
  refine ⟨zq_k_n 133 h rfl (zq_o_133 _), ?_⟩
  replace h := zq_nx1 (q := 39) h rfl
  exact zq_k_n 9 h rfl (zq_o_9 _)
theorem d_M_leastOf_0 : decode prog_10_method_56_code 0 = .ok (.ldc 246, 2) := dd_M_leastOf_0.1
theorem d_M_leastOf_2 : decode prog_10_method_56_code 2 = .ok (.istore 5, 2) := dd_M_leastOf_0.2.1
theorem d_M_leastOf_4 : decode prog_10_method_56_code 4 = .ok (.iconst 0, 1) := dd_M_leastOf_0.2.2.1
theorem d_M_leastOf_5 : decode prog_10_method_56_code 5 = .ok (.istore 6, 2) := dd_M_leastOf_0.2.2.2.1
theorem d_M_leastOf_7 : decode prog_10_method_56_code 7 = .ok (.iload 6, 2) := dd_M_leastOf_0.2.2.2.2.1
theorem d_M_leastOf_9 : decode prog_10_method_56_code 9 = .ok (.iconst 3, 1) := dd_M_leastOf_0.2.2.2.2.2.1
theorem d_M_leastOf_10 : decode prog_10_method_56_code 10 = .ok (.if_icmp .gt 89, 3) := dd_M_leastOf_0.2.2.2.2.2.2.1
theorem d_M_leastOf_13 : decode prog_10_method_56_code 13 = .ok (.iconst 0, 1) := dd_M_leastOf_0.2.2.2.2.2.2.2.1
theorem d_M_leastOf_14 : decode prog_10_method_56_code 14 = .ok (.istore 7, 2) := dd_M_leastOf_0.2.2.2.2.2.2.2.2.1
theorem d_M_leastOf_16 : decode prog_10_method_56_code 16 = .ok (.iload 7, 2) := dd_M_leastOf_0.2.2.2.2.2.2.2.2.2.1
theorem d_M_leastOf_18 : decode prog_10_method_56_code 18 = .ok (.iconst 3, 1) := dd_M_leastOf_0.2.2.2.2.2.2.2.2.2.2.1
theorem d_M_leastOf_19 : decode prog_10_method_56_code 19 = .ok (.if_icmp .gt 74, 3) := dd_M_leastOf_0.2.2.2.2.2.2.2.2.2.2.2.1
theorem d_M_leastOf_22 : decode prog_10_method_56_code 22 = .ok (.aload_n 0, 1) := dd_M_leastOf_0.2.2.2.2.2.2.2.2.2.2.2.2.1
theorem d_M_leastOf_23 : decode prog_10_method_56_code 23 = .ok (.getfield 56, 3) := dd_M_leastOf_0.2.2.2.2.2.2.2.2.2.2.2.2.2.1
theorem d_M_leastOf_26 : decode prog_10_method_56_code 26 = .ok (.iload_n 1, 1) := dd_M_leastOf_0.2.2.2.2.2.2.2.2.2.2.2.2.2.2.1
theorem d_M_leastOf_27 : decode prog_10_method_56_code 27 = .ok (.iaload, 1) := dd_M_leastOf_0.2.2.2.2.2.2.2.2.2.2.2.2.2.2.2.1
theorem d_M_leastOf_28 : decode prog_10_method_56_code 28 = .ok (.iload 6, 2) := dd_M_leastOf_0.2.2.2.2.2.2.2.2.2.2.2.2.2.2.2.2.1
theorem d_M_leastOf_30 : decode prog_10_method_56_code 30 = .ok (.isub, 1) := dd_M_leastOf_0.2.2.2.2.2.2.2.2.2.2.2.2.2.2.2.2.2.1
theorem d_M_leastOf_31 : decode prog_10_method_56_code 31 = .ok (.iload 7, 2) := dd_M_leastOf_0.2.2.2.2.2.2.2.2.2.2.2.2.2.2.2.2.2.2.1
theorem d_M_leastOf_33 : decode prog_10_method_56_code 33 = .ok (.isub, 1) := dd_M_leastOf_0.2.2.2.2.2.2.2.2.2.2.2.2.2.2.2.2.2.2.2.1
theorem d_M_leastOf_34 : decode prog_10_method_56_code 34 = .ok (.istore 8, 2) := dd_M_leastOf_0.2.2.2.2.2.2.2.2.2.2.2.2.2.2.2.2.2.2.2.2.1
theorem d_M_leastOf_36 : decode prog_10_method_56_code 36 = .ok (.iload 8, 2) := dd_M_leastOf_0.2.2.2.2.2.2.2.2.2.2.2.2.2.2.2.2.2.2.2.2.2.1
theorem d_M_leastOf_38 : decode prog_10_method_56_code 38 = .ok (.i2l, 1) := dd_M_leastOf_0.2.2.2.2.2.2.2.2.2.2.2.2.2.2.2.2.2.2.2.2.2.2.1
theorem d_M_leastOf_39 : decode prog_10_method_56_code 39 = .ok (.lconst 0, 1) := dd_M_leastOf_0.2.2.2.2.2.2.2.2.2.2.2.2.2.2.2.2.2.2.2.2.2.2.2
set_option maxRecDepth 100000 in
theorem dd_M_leastOf_40 : (decode prog_10_method_56_code 40 = .ok (.ldc2_w 251, 3)) ∧ (decode prog_10_method_56_code 43 = .ok (.invokestatic 114, 3)) ∧ (decode prog_10_method_56_code 46 = .ok (.ifCond .eq 21, 3)) ∧ (decode prog_10_method_56_code 49 = .ok (.aload_n 0, 1)) ∧ (decode prog_10_method_56_code 50 = .ok (.iload_n 1, 1)) ∧ (decode prog_10_method_56_code 51 = .ok (.iload_n 2, 1)) ∧ (decode prog_10_method_56_code 52 = .ok (.iload_n 3, 1)) ∧ (decode prog_10_method_56_code 53 = .ok (.iload 4, 2)) ∧ (decode prog_10_method_56_code 55 = .ok (.iload 6, 2)) ∧ (decode prog_10_method_56_code 57 = .ok (.iload 7, 2)) ∧ (decode prog_10_method_56_code 59 = .ok (.iload 8, 2)) ∧ (decode prog_10_method_56_code 61 = .ok (.invokevirtual 253, 3)) ∧ (decode prog_10_method_56_code 64 = .ok (.goto 5, 3)) ∧ (decode prog_10_method_56_code 67 = .ok (.ldc 246, 2)) ∧ (decode prog_10_method_56_code 69 = .ok (.istore 9, 2)) ∧ (decode prog_10_method_56_code 71 = .ok (.iload 9, 2)) ∧ (decode prog_10_method_56_code 73 = .ok (.iload 5, 2)) ∧ (decode prog_10_method_56_code 75 = .ok (.if_icmp .ge 8, 3)) ∧ (decode prog_10_method_56_code 78 = .ok (.iload 9, 2)) ∧ (decode prog_10_method_56_code 80 = .ok (.goto 5, 3)) ∧ (decode prog_10_method_56_code 83 = .ok (.iload 5, 2)) ∧ (decode prog_10_method_56_code 85 = .ok (.istore 5, 2)) ∧ (decode prog_10_method_56_code 87 = .ok (.iinc 7 1, 3)) ∧ (decode prog_10_method_56_code 90 = .ok (.goto (-74), 3)) := by
  have h : List.drop 40 prog_10_method_56_code.data.toList = 0x14 :: _ := rfl
  refine ⟨zq_k_u2 20 (fun z => .ldc2_w z) 251 h rfl (zq_o_20 _) (by decide +kernel), ?_⟩
  replace h := zq_nx3 (q := 43) h rfl
  refine ⟨zq_k_u2 184 (fun z => .invokestatic z) 114 h rfl (zq_o_184 _) (by decide +kernel), ?_⟩
  replace h := zq_nx3 (q := 46) h rfl
  refine ⟨zq_k_s2 153 (fun z => .ifCond .eq z) 21 h rfl (zq_o_153 _) (by decide +kernel), ?_⟩
  replace h := zq_nx3 (q := 49) h rfl
  refine ⟨zq_k_n 42 h rfl (zq_o_42 _), ?_⟩
  replace h := zq_nx1 (q := 50) h rfl
  refine ⟨zq_k_n 27 h rfl (zq_o_27 _), ?_⟩
  replace h := zq_nx1 (q := 51) h rfl
  refine ⟨zq_k_n 28 h rfl (zq_o_28 _), ?_⟩
  replace h := zq_nx1 (q := 52) h rfl
  refine ⟨zq_k_n 29 h rfl (zq_o_29 _), ?_⟩
  replace h := zq_nx1 (q := 53) h rfl
  refine ⟨zq_k_u1 21 (fun z => .iload z) 4 h rfl (zq_o_21 _) (by decide +kernel), ?_⟩
  replace h := zq_nx2 (q := 55) h rfl
  refine ⟨zq_k_u1 21 (fun z => .iload z) 6 h rfl (zq_o_21 _) (by decide +kernel), ?_⟩
  replace h := zq_nx2 (q := 57) h rfl
  refine ⟨zq_k_u1 21 (fun z => .iload z) 7 h rfl (zq_o_21 _) (by decide +kernel), ?_⟩
  replace h := zq_nx2 (q := 59) h rfl
  refine ⟨zq_k_u1 21 (fun z => .iload z) 8 h rfl (zq_o_21 _) (by decide +kernel), ?_⟩
  replace h := zq_nx2 (q := 61) h rfl
  refine ⟨zq_k_u2 182 (fun z => .invokevirtual z) 253 h rfl (zq_o_182 _) (by decide +kernel), ?_⟩
  replace h := zq_nx3 (q := 64) h rfl
  refine ⟨zq_k_s2 167 (fun z => .goto z) 5 h rfl (zq_o_167 _) (by decide +kernel), ?_⟩
  replace h := zq_nx3 (q := 67) h rfl
  refine ⟨zq_k_u1 18 (fun z => .ldc z) 246 h rfl (zq_o_18 _) (by decide +kernel), ?_⟩
  replace h := zq_nx2 (q := 69) h rfl
  refine ⟨zq_k_u1 54 (fun z => .istore z) 9 h rfl (zq_o_54 _) (by decide +kernel), ?_⟩
  replace h := zq_nx2 (q := 71) h rfl
  refine ⟨zq_k_u1 21 (fun z => .iload z) 9 h rfl (zq_o_21 _) (by decide +kernel), ?_⟩
  replace h := zq_nx2 (q := 73) h rfl
  refine ⟨zq_k_u1 21 (fun z => .iload z) 5 h rfl (zq_o_21 _) (by decide +kernel), ?_⟩
  replace h := zq_nx2 (q := 75) h rfl
  refine ⟨zq_k_s2 162 (fun z => .if_icmp .ge z) 8 h rfl (zq_o_162 _) (by decide +kernel), ?_⟩
  replace h := zq_nx3 (q := 78) h rfl
  refine ⟨zq_k_u1 21 (fun z => .iload z) 9 h rfl (zq_o_21 _) (by decide +kernel), ?_⟩
  replace h := zq_nx2 (q := 80) h rfl
  refine ⟨zq_k_s2 167 (fun z => .goto z) 5 h rfl (zq_o_167 _) (by decide +kernel), ?_⟩
  replace h := zq_nx3 (q := 83) h rfl
  refine ⟨zq_k_u1 21 (fun z => .iload z) 5 h rfl (zq_o_21 _) (by decide +kernel), ?_⟩
  replace h := zq_nx2 (q := 85) h rfl
  refine ⟨zq_k_u1 54 (fun z => .istore z) 5 h rfl (zq_o_54 _) (by decide +kernel), ?_⟩
  replace h := zq_nx2 (q := 87) h rfl
  refine ⟨zq_k_iinc 7 1 h rfl (zq_o_132 _) (by decide +kernel) (by decide +kernel), ?_⟩
  replace h := zq_nx3 (q := 90) h rfl
  exact zq_k_s2 167 (fun z => .goto z) (-74) h rfl (zq_o_167 _) (by decide +kernel)
theorem d_M_leastOf_40 : decode prog_10_method_56_code 40 = .ok (.ldc2_w 251, 3) := dd_M_leastOf_40.1
theorem d_M_leastOf_43 : decode prog_10_method_56_code 43 = .ok (.invokestatic 114, 3) := dd_M_leastOf_40.2.1
theorem d_M_leastOf_46 : decode prog_10_method_56_code 46 = .ok (.ifCond .eq 21, 3) := dd_M_leastOf_40.2.2.1
theorem d_M_leastOf_49 : decode prog_10_method_56_code 49 = .ok (.aload_n 0, 1) := dd_M_leastOf_40.2.2.2.1
theorem d_M_leastOf_50 : decode prog_10_method_56_code 50 = .ok (.iload_n 1, 1) := dd_M_leastOf_40.2.2.2.2.1
theorem d_M_leastOf_51 : decode prog_10_method_56_code 51 = .ok (.iload_n 2, 1) := dd_M_leastOf_40.2.2.2.2.2.1
theorem d_M_leastOf_52 : decode prog_10_method_56_code 52 = .ok (.iload_n 3, 1) := dd_M_leastOf_40.2.2.2.2.2.2.1
theorem d_M_leastOf_53 : decode prog_10_method_56_code 53 = .ok (.iload 4, 2) := dd_M_leastOf_40.2.2.2.2.2.2.2.1
theorem d_M_leastOf_55 : decode prog_10_method_56_code 55 = .ok (.iload 6, 2) := dd_M_leastOf_40.2.2.2.2.2.2.2.2.1
theorem d_M_leastOf_57 : decode prog_10_method_56_code 57 = .ok (.iload 7, 2) := dd_M_leastOf_40.2.2.2.2.2.2.2.2.2.1
theorem d_M_leastOf_59 : decode prog_10_method_56_code 59 = .ok (.iload 8, 2) := dd_M_leastOf_40.2.2.2.2.2.2.2.2.2.2.1
theorem d_M_leastOf_61 : decode prog_10_method_56_code 61 = .ok (.invokevirtual 253, 3) := dd_M_leastOf_40.2.2.2.2.2.2.2.2.2.2.2.1
theorem d_M_leastOf_64 : decode prog_10_method_56_code 64 = .ok (.goto 5, 3) := dd_M_leastOf_40.2.2.2.2.2.2.2.2.2.2.2.2.1
theorem d_M_leastOf_67 : decode prog_10_method_56_code 67 = .ok (.ldc 246, 2) := dd_M_leastOf_40.2.2.2.2.2.2.2.2.2.2.2.2.2.1
theorem d_M_leastOf_69 : decode prog_10_method_56_code 69 = .ok (.istore 9, 2) := dd_M_leastOf_40.2.2.2.2.2.2.2.2.2.2.2.2.2.2.1
theorem d_M_leastOf_71 : decode prog_10_method_56_code 71 = .ok (.iload 9, 2) := dd_M_leastOf_40.2.2.2.2.2.2.2.2.2.2.2.2.2.2.2.1
theorem d_M_leastOf_73 : decode prog_10_method_56_code 73 = .ok (.iload 5, 2) := dd_M_leastOf_40.2.2.2.2.2.2.2.2.2.2.2.2.2.2.2.2.1
theorem d_M_leastOf_75 : decode prog_10_method_56_code 75 = .ok (.if_icmp .ge 8, 3) := dd_M_leastOf_40.2.2.2.2.2.2.2.2.2.2.2.2.2.2.2.2.2.1
theorem d_M_leastOf_78 : decode prog_10_method_56_code 78 = .ok (.iload 9, 2) := dd_M_leastOf_40.2.2.2.2.2.2.2.2.2.2.2.2.2.2.2.2.2.2.1
theorem d_M_leastOf_80 : decode prog_10_method_56_code 80 = .ok (.goto 5, 3) := dd_M_leastOf_40.2.2.2.2.2.2.2.2.2.2.2.2.2.2.2.2.2.2.2.1
theorem d_M_leastOf_83 : decode prog_10_method_56_code 83 = .ok (.iload 5, 2) := dd_M_leastOf_40.2.2.2.2.2.2.2.2.2.2.2.2.2.2.2.2.2.2.2.2.1
theorem d_M_leastOf_85 : decode prog_10_method_56_code 85 = .ok (.istore 5, 2) := dd_M_leastOf_40.2.2.2.2.2.2.2.2.2.2.2.2.2.2.2.2.2.2.2.2.2.1
theorem d_M_leastOf_87 : decode prog_10_method_56_code 87 = .ok (.iinc 7 1, 3) := dd_M_leastOf_40.2.2.2.2.2.2.2.2.2.2.2.2.2.2.2.2.2.2.2.2.2.2.1
theorem d_M_leastOf_90 : decode prog_10_method_56_code 90 = .ok (.goto (-74), 3) := dd_M_leastOf_40.2.2.2.2.2.2.2.2.2.2.2.2.2.2.2.2.2.2.2.2.2.2.2
set_option maxRecDepth 100000 in
theorem dd_M_leastOf_93 : (decode prog_10_method_56_code 93 = .ok (.iinc 6 1, 3)) ∧ (decode prog_10_method_56_code 96 = .ok (.goto (-89), 3)) ∧ (decode prog_10_method_56_code 99 = .ok (.iload 5, 2)) ∧ (decode prog_10_method_56_code 101 = .ok (.ireturn, 1)) := by
  have h : List.drop 93 prog_10_method_56_code.data.toList = 0x84 :: _ := rfl
  refine ⟨zq_k_iinc 6 1 h rfl (zq_o_132 _) (by decide +kernel) (by decide +kernel), ?_⟩
  replace h := zq_nx3 (q := 96) h rfl
  refine ⟨zq_k_s2 167 (fun z => .goto z) (-89) h rfl (zq_o_167 _) (by decide +kernel), ?_⟩
  replace h := zq_nx3 (q := 99) h rfl
  refine ⟨zq_k_u1 21 (fun z => .iload z) 5 h rfl (zq_o_21 _) (by decide +kernel), ?_⟩
  replace h := zq_nx2 (q := 101) h rfl
  exact zq_k_n 172 h rfl (zq_o_172 _)
theorem d_M_leastOf_93 : decode prog_10_method_56_code 93 = .ok (.iinc 6 1, 3) := dd_M_leastOf_93.1
theorem d_M_leastOf_96 : decode prog_10_method_56_code 96 = .ok (.goto (-89), 3) := dd_M_leastOf_93.2.1
theorem d_M_leastOf_99 : decode prog_10_method_56_code 99 = .ok (.iload 5, 2) := dd_M_leastOf_93.2.2.1
theorem d_M_leastOf_101 : decode prog_10_method_56_code 101 = .ok (.ireturn, 1) := dd_M_leastOf_93.2.2.2
def f_M_leastOf_85 (rec7 : Nat → Int32 → Int32 → Int32 → Int32 → Int32 → Int32 → mH → Option (Int32 × mH)) (rec16 : Nat → Int32 → Int32 → Int32 → Int32 → Int32 → Int32 → Int32 → mH → Option (Int32 × mH)) (b0 : Nat) (b1 : Int32) (b2 : Int32) (b3 : Int32) (b4 : Int32) (b6 : Int32) (b7 : Int32) (s0 : Int32) (h : mH) : Option (Int32 × mH) :=
  rec16 b0 b1 b2 b3 b4 s0 b6 (b7 + (1 : Int32)) h
set_option maxRecDepth 20000 in
theorem t_M_leastOf_85 {sc : Nat × (Nat → Int32)} (rec7 : Nat → Int32 → Int32 → Int32 → Int32 → Int32 → Int32 → mH → Option (Int32 × mH)) (hrec7 : ∀ (b0 : Nat) (b1 : Int32) (b2 : Int32) (b3 : Int32) (b4 : Int32) (b5 : Int32) (b6 : Int32) (h : mH) (r : Int32) (h' : mH), rec7 b0 b1 b2 b3 b4 b5 b6 h = some (r, h') → G sc y_M_leastOf prog_10_method_56_code 10 (some .int) 4 97 7 [(0, .ref b0), (1, .int b1), (2, .int b2), (3, .int b3), (4, .int b4), (5, .int b5), (6, .int b6)] [] h (some (.int r)) h') (rec16 : Nat → Int32 → Int32 → Int32 → Int32 → Int32 → Int32 → Int32 → mH → Option (Int32 × mH)) (hrec16 : ∀ (b0 : Nat) (b1 : Int32) (b2 : Int32) (b3 : Int32) (b4 : Int32) (b5 : Int32) (b6 : Int32) (b7 : Int32) (h : mH) (r : Int32) (h' : mH), rec16 b0 b1 b2 b3 b4 b5 b6 b7 h = some (r, h') → G sc y_M_leastOf prog_10_method_56_code 10 (some .int) 4 97 16 [(0, .ref b0), (1, .int b1), (2, .int b2), (3, .int b3), (4, .int b4), (5, .int b5), (6, .int b6), (7, .int b7)] [] h (some (.int r)) h') (b0 : Nat) (b1 : Int32) (b2 : Int32) (b3 : Int32) (b4 : Int32) (b6 : Int32) (b7 : Int32) (s0 : Int32) (h : mH) (r : Int32) (h' : mH) (hf : f_M_leastOf_85 rec7 rec16 b0 b1 b2 b3 b4 b6 b7 s0 h = some (r, h')) : G sc y_M_leastOf prog_10_method_56_code 10 (some .int) 4 97 85 [(0, .ref b0), (1, .int b1), (2, .int b2), (3, .int b3), (4, .int b4), (6, .int b6), (7, .int b7)] [.int s0] h (some (.int r)) h' := by
  unfold f_M_leastOf_85 at hf
  refine g_istore (pc := 85) [(5, .int s0), (0, .ref b0), (1, .int b1), (2, .int b2), (3, .int b3), (4, .int b4), (6, .int b6), (7, .int b7)] d_M_leastOf_85 (Nat.le_of_ble_eq_true rfl) rfl ?_
  refine g_iinc (pc := 87) 7 (b7 + (1 : Int32)) [(7, .int (b7 + (1 : Int32))), (5, .int s0), (0, .ref b0), (1, .int b1), (2, .int b2), (3, .int b3), (4, .int b4), (6, .int b6)] d_M_leastOf_87 rfl rfl (Nat.le_of_ble_eq_true rfl) rfl ?_
  refine g_goto (pc := 90) 16 d_M_leastOf_90 (by decide) ?_
  refine g_lv [2, 3, 4, 5, 6, 1, 7, 0] rfl ?_
  exact hrec16 _ _ _ _ _ _ _ _ _ _ _  hf
def f_M_leastOf_69 (rec7 : Nat → Int32 → Int32 → Int32 → Int32 → Int32 → Int32 → mH → Option (Int32 × mH)) (rec16 : Nat → Int32 → Int32 → Int32 → Int32 → Int32 → Int32 → Int32 → mH → Option (Int32 × mH)) (b0 : Nat) (b1 : Int32) (b2 : Int32) (b3 : Int32) (b4 : Int32) (b5 : Int32) (b6 : Int32) (b7 : Int32) (s0 : Int32) (h : mH) : Option (Int32 × mH) :=
  if b5 ≤ s0 then
    f_M_leastOf_85 rec7 rec16 b0 b1 b2 b3 b4 b6 b7 b5 h
  else
    f_M_leastOf_85 rec7 rec16 b0 b1 b2 b3 b4 b6 b7 s0 h
set_option maxRecDepth 20000 in
theorem t_M_leastOf_69 {sc : Nat × (Nat → Int32)} (rec7 : Nat → Int32 → Int32 → Int32 → Int32 → Int32 → Int32 → mH → Option (Int32 × mH)) (hrec7 : ∀ (b0 : Nat) (b1 : Int32) (b2 : Int32) (b3 : Int32) (b4 : Int32) (b5 : Int32) (b6 : Int32) (h : mH) (r : Int32) (h' : mH), rec7 b0 b1 b2 b3 b4 b5 b6 h = some (r, h') → G sc y_M_leastOf prog_10_method_56_code 10 (some .int) 4 97 7 [(0, .ref b0), (1, .int b1), (2, .int b2), (3, .int b3), (4, .int b4), (5, .int b5), (6, .int b6)] [] h (some (.int r)) h') (rec16 : Nat → Int32 → Int32 → Int32 → Int32 → Int32 → Int32 → Int32 → mH → Option (Int32 × mH)) (hrec16 : ∀ (b0 : Nat) (b1 : Int32) (b2 : Int32) (b3 : Int32) (b4 : Int32) (b5 : Int32) (b6 : Int32) (b7 : Int32) (h : mH) (r : Int32) (h' : mH), rec16 b0 b1 b2 b3 b4 b5 b6 b7 h = some (r, h') → G sc y_M_leastOf prog_10_method_56_code 10 (some .int) 4 97 16 [(0, .ref b0), (1, .int b1), (2, .int b2), (3, .int b3), (4, .int b4), (5, .int b5), (6, .int b6), (7, .int b7)] [] h (some (.int r)) h') (b0 : Nat) (b1 : Int32) (b2 : Int32) (b3 : Int32) (b4 : Int32) (b5 : Int32) (b6 : Int32) (b7 : Int32) (s0 : Int32) (h : mH) (r : Int32) (h' : mH) (hf : f_M_leastOf_69 rec7 rec16 b0 b1 b2 b3 b4 b5 b6 b7 s0 h = some (r, h')) : G sc y_M_leastOf prog_10_method_56_code 10 (some .int) 4 97 69 [(0, .ref b0), (1, .int b1), (2, .int b2), (3, .int b3), (4, .int b4), (5, .int b5), (6, .int b6), (7, .int b7)] [.int s0] h (some (.int r)) h' := by
  unfold f_M_leastOf_69 at hf
  refine g_istore (pc := 69) [(9, .int s0), (0, .ref b0), (1, .int b1), (2, .int b2), (3, .int b3), (4, .int b4), (5, .int b5), (6, .int b6), (7, .int b7)] d_M_leastOf_69 (Nat.le_of_ble_eq_true rfl) rfl ?_
  refine g_iload (pc := 71) 0 d_M_leastOf_71 rfl ?_
  refine g_iload (pc := 73) 6 d_M_leastOf_73 rfl ?_
  refine g_icmpge (pc := 75) 83 d_M_leastOf_75 (by decide) (fun c16 => ?_) (fun c16 => ?_)
  · replace hf := (if_pos c16).symm.trans hf
    refine g_iload (pc := 83) 6 d_M_leastOf_83 rfl ?_
    refine g_lv [1, 2, 3, 4, 5, 7, 8] rfl ?_
    exact t_M_leastOf_85 rec7 hrec7 rec16 hrec16 _ _ _ _ _ _ _ _ _ _ _  hf
  · replace hf := (if_neg c16).symm.trans hf
    refine g_iload (pc := 78) 0 d_M_leastOf_78 rfl ?_
    refine g_goto (pc := 80) 85 d_M_leastOf_80 (by decide) ?_
    refine g_lv [1, 2, 3, 4, 5, 7, 8] rfl ?_
    exact t_M_leastOf_85 rec7 hrec7 rec16 hrec16 _ _ _ _ _ _ _ _ _ _ _  hf
def f_M_leastOf_16b (rec7 : Nat → Int32 → Int32 → Int32 → Int32 → Int32 → Int32 → mH → Option (Int32 × mH)) (rec16 : Nat → Int32 → Int32 → Int32 → Int32 → Int32 → Int32 → Int32 → mH → Option (Int32 × mH)) (b0 : Nat) (b1 : Int32) (b2 : Int32) (b3 : Int32) (b4 : Int32) (b5 : Int32) (b6 : Int32) (b7 : Int32) (h : mH) : Option (Int32 × mH) :=
  if (3 : Int32) < b7 then
    rec7 b0 b1 b2 b3 b4 b5 (b6 + (1 : Int32)) h
  else
    bd1 (gR h b0 8 28) fun x2 =>
    bd1 (aI h 0 x2 b1) fun x4 =>
    bd2 (f_M_in (((x4 - b6) - b7).toInt64) (0 : Int64) (3 : Int64) h) fun x8 h6 =>
    if x8 = 0 then
      f_M_leastOf_69 rec7 rec16 b0 b1 b2 b3 b4 b5 b6 b7 (1000000 : Int32) h6
    else
      bd1 (kC h6 b0 8) fun _ =>
      bd2 (f_M_harmBy b0 b1 b2 b3 b4 b6 b7 ((x4 - b6) - b7) h6) fun x13 h11 =>
      f_M_leastOf_69 rec7 rec16 b0 b1 b2 b3 b4 b5 b6 b7 x13 h11
set_option maxRecDepth 20000 in
theorem t_M_leastOf_16b {sc : Nat × (Nat → Int32)} (rec7 : Nat → Int32 → Int32 → Int32 → Int32 → Int32 → Int32 → mH → Option (Int32 × mH)) (hrec7 : ∀ (b0 : Nat) (b1 : Int32) (b2 : Int32) (b3 : Int32) (b4 : Int32) (b5 : Int32) (b6 : Int32) (h : mH) (r : Int32) (h' : mH), rec7 b0 b1 b2 b3 b4 b5 b6 h = some (r, h') → G sc y_M_leastOf prog_10_method_56_code 10 (some .int) 4 97 7 [(0, .ref b0), (1, .int b1), (2, .int b2), (3, .int b3), (4, .int b4), (5, .int b5), (6, .int b6)] [] h (some (.int r)) h') (rec16 : Nat → Int32 → Int32 → Int32 → Int32 → Int32 → Int32 → Int32 → mH → Option (Int32 × mH)) (hrec16 : ∀ (b0 : Nat) (b1 : Int32) (b2 : Int32) (b3 : Int32) (b4 : Int32) (b5 : Int32) (b6 : Int32) (b7 : Int32) (h : mH) (r : Int32) (h' : mH), rec16 b0 b1 b2 b3 b4 b5 b6 b7 h = some (r, h') → G sc y_M_leastOf prog_10_method_56_code 10 (some .int) 4 97 16 [(0, .ref b0), (1, .int b1), (2, .int b2), (3, .int b3), (4, .int b4), (5, .int b5), (6, .int b6), (7, .int b7)] [] h (some (.int r)) h') (b0 : Nat) (b1 : Int32) (b2 : Int32) (b3 : Int32) (b4 : Int32) (b5 : Int32) (b6 : Int32) (b7 : Int32) (h : mH) (r : Int32) (h' : mH) (hf : f_M_leastOf_16b rec7 rec16 b0 b1 b2 b3 b4 b5 b6 b7 h = some (r, h')) : G sc y_M_leastOf prog_10_method_56_code 10 (some .int) 4 97 16 [(0, .ref b0), (1, .int b1), (2, .int b2), (3, .int b3), (4, .int b4), (5, .int b5), (6, .int b6), (7, .int b7)] [] h (some (.int r)) h' := by
  unfold f_M_leastOf_16b at hf
  refine g_iload (pc := 16) 7 d_M_leastOf_16 rfl ?_
  refine g_iconst (pc := 18) (3 : Int32) d_M_leastOf_18 (by decide) ?_
  refine g_icmpgt (pc := 19) 93 d_M_leastOf_19 (by decide) (fun c15 => ?_) (fun c15 => ?_)
  · replace hf := (if_pos c15).symm.trans hf
    refine g_iinc (pc := 93) 6 (b6 + (1 : Int32)) [(6, .int (b6 + (1 : Int32))), (0, .ref b0), (1, .int b1), (2, .int b2), (3, .int b3), (4, .int b4), (5, .int b5), (7, .int b7)] d_M_leastOf_93 rfl rfl (Nat.le_of_ble_eq_true rfl) rfl ?_
    refine g_goto (pc := 96) 7 d_M_leastOf_96 (by decide) ?_
    refine g_lv [1, 2, 3, 4, 5, 6, 0] rfl ?_
    exact hrec7 _ _ _ _ _ _ _ _ _ _  hf
  · replace hf := (if_neg c15).symm.trans hf
    refine g_aload_n (pc := 22) 0 d_M_leastOf_22 rfl rfl ?_
    obtain ⟨x2, e3, hf⟩ := bd1_e hf
    refine g_get (pc := 23) (ci := 8) (kk := 28) d_M_leastOf_23 rfl in_M (by decide) wd_966 (gR_spec e3) ?_
    refine g_iload_n (pc := 26) 1 d_M_leastOf_26 rfl rfl ?_
    obtain ⟨x4, e5, hf⟩ := bd1_e hf
    refine g_iald (pc := 27) d_M_leastOf_27 e5 ?_
    refine g_iload (pc := 28) 6 d_M_leastOf_28 rfl ?_
    refine g_isub (pc := 30) d_M_leastOf_30 ?_
    refine g_iload (pc := 31) 7 d_M_leastOf_31 rfl ?_
    refine g_isub (pc := 33) d_M_leastOf_33 ?_
    refine g_istore (pc := 34) [(8, .int ((x4 - b6) - b7)), (0, .ref b0), (1, .int b1), (2, .int b2), (3, .int b3), (4, .int b4), (5, .int b5), (6, .int b6), (7, .int b7)] d_M_leastOf_34 (Nat.le_of_ble_eq_true rfl) rfl ?_
    refine g_iload (pc := 36) 0 d_M_leastOf_36 rfl ?_
    refine g_i2l (pc := 38) d_M_leastOf_38 ?_
    refine g_lconst (pc := 39) (0 : Int64) d_M_leastOf_39 (by decide) ?_
    refine g_ldc2 (pc := 40) (3 : Int64) d_M_leastOf_40 wd_1273 ?_
    obtain ⟨x8, h6, e7, hf⟩ := bd2_e hf
    refine g_callS (pc := 43) [.long (((x4 - b6) - b7).toInt64), .long (0 : Int64), .long (3 : Int64)] (site_of si_M_in (by decide) (by decide)) wd_1061 wd_1062 d_M_leastOf_43 (Nat.le_of_ble_eq_true rfl) (fun z => absurd z (by decide)) (fun z => absurd z (by decide)) (fun z => absurd z (by decide)) (c_M_in e7) rfl ?_
    refine g_st [.int x8] rfl ?_
    refine g_ifeq (pc := 46) 67 d_M_leastOf_46 (by decide) (fun c14 => ?_) (fun c14 => ?_)
    · replace hf := (if_pos c14).symm.trans hf
      refine g_ldc (pc := 67) (1000000 : Int32) d_M_leastOf_67 wd_1272 ?_
      refine g_lv [1, 2, 3, 4, 5, 6, 7, 8] rfl ?_
      exact t_M_leastOf_69 rec7 hrec7 rec16 hrec16 _ _ _ _ _ _ _ _ _ _ _ _  hf
    · replace hf := (if_neg c14).symm.trans hf
      refine g_aload_n (pc := 49) 1 d_M_leastOf_49 rfl rfl ?_
      refine g_iload_n (pc := 50) 2 d_M_leastOf_50 rfl rfl ?_
      refine g_iload_n (pc := 51) 3 d_M_leastOf_51 rfl rfl ?_
      refine g_iload_n (pc := 52) 4 d_M_leastOf_52 rfl rfl ?_
      refine g_iload (pc := 53) 5 d_M_leastOf_53 rfl ?_
      refine g_iload (pc := 55) 7 d_M_leastOf_55 rfl ?_
      refine g_iload (pc := 57) 8 d_M_leastOf_57 rfl ?_
      refine g_iload (pc := 59) 0 d_M_leastOf_59 rfl ?_
      obtain ⟨u10, e9, hf⟩ := bd1_e hf
      obtain ⟨x13, h11, e12, hf⟩ := bd2_e hf
      refine g_callV (pc := 61) (ci := 8) [.int b1, .int b2, .int b3, .int b4, .int b6, .int b7, .int ((x4 - b6) - b7)] (site_of si_M_harmBy (by decide) (by decide)) wd_1274 wd_1276 wp_60 d_M_leastOf_61 rfl e9 (Nat.le_of_ble_eq_true rfl) (fun z => absurd z (by decide)) (fun z => absurd z (by decide)) (fun z => absurd z (by decide)) (c_M_harmBy e12) rfl ?_
      refine g_st [.int x13] rfl ?_
      refine g_goto (pc := 64) 69 d_M_leastOf_64 (by decide) ?_
      refine g_lv [1, 2, 3, 4, 5, 6, 7, 8] rfl ?_
      exact t_M_leastOf_69 rec7 hrec7 rec16 hrec16 _ _ _ _ _ _ _ _ _ _ _ _  hf
def f_M_leastOf_16 (rec7 : Nat → Int32 → Int32 → Int32 → Int32 → Int32 → Int32 → mH → Option (Int32 × mH)) : Nat → Nat → Int32 → Int32 → Int32 → Int32 → Int32 → Int32 → Int32 → mH → Option (Int32 × mH)
  | 0 => fun _ _ _ _ _ _ _ _ _ => none
  | n + 1 => f_M_leastOf_16b rec7 (f_M_leastOf_16 rec7 n)
theorem t_M_leastOf_16 {sc : Nat × (Nat → Int32)} (rec7 : Nat → Int32 → Int32 → Int32 → Int32 → Int32 → Int32 → mH → Option (Int32 × mH)) (hrec7 : ∀ (b0 : Nat) (b1 : Int32) (b2 : Int32) (b3 : Int32) (b4 : Int32) (b5 : Int32) (b6 : Int32) (h : mH) (r : Int32) (h' : mH), rec7 b0 b1 b2 b3 b4 b5 b6 h = some (r, h') → G sc y_M_leastOf prog_10_method_56_code 10 (some .int) 4 97 7 [(0, .ref b0), (1, .int b1), (2, .int b2), (3, .int b3), (4, .int b4), (5, .int b5), (6, .int b6)] [] h (some (.int r)) h') : ∀ (n : Nat) (b0 : Nat) (b1 : Int32) (b2 : Int32) (b3 : Int32) (b4 : Int32) (b5 : Int32) (b6 : Int32) (b7 : Int32) (h : mH) (r : Int32) (h' : mH) (hf : f_M_leastOf_16 rec7 n b0 b1 b2 b3 b4 b5 b6 b7 h = some (r, h')), G sc y_M_leastOf prog_10_method_56_code 10 (some .int) 4 97 16 [(0, .ref b0), (1, .int b1), (2, .int b2), (3, .int b3), (4, .int b4), (5, .int b5), (6, .int b6), (7, .int b7)] [] h (some (.int r)) h'
  | 0, _, _, _, _, _, _, _, _, _, _, _, hf => by cases hf
  | n + 1, _, _, _, _, _, _, _, _, _, _, _, hf => t_M_leastOf_16b rec7 hrec7 (f_M_leastOf_16 rec7 n) (t_M_leastOf_16 rec7 hrec7 n) _ _ _ _ _ _ _ _ _ _ _ hf
def f_M_leastOf_7b (rec7 : Nat → Int32 → Int32 → Int32 → Int32 → Int32 → Int32 → mH → Option (Int32 × mH)) (b0 : Nat) (b1 : Int32) (b2 : Int32) (b3 : Int32) (b4 : Int32) (b5 : Int32) (b6 : Int32) (h : mH) : Option (Int32 × mH) :=
  if (3 : Int32) < b6 then
    some (b5, h)
  else
    f_M_leastOf_16 rec7 FU b0 b1 b2 b3 b4 b5 b6 (0 : Int32) h
set_option maxRecDepth 20000 in
theorem t_M_leastOf_7b {sc : Nat × (Nat → Int32)} (rec7 : Nat → Int32 → Int32 → Int32 → Int32 → Int32 → Int32 → mH → Option (Int32 × mH)) (hrec7 : ∀ (b0 : Nat) (b1 : Int32) (b2 : Int32) (b3 : Int32) (b4 : Int32) (b5 : Int32) (b6 : Int32) (h : mH) (r : Int32) (h' : mH), rec7 b0 b1 b2 b3 b4 b5 b6 h = some (r, h') → G sc y_M_leastOf prog_10_method_56_code 10 (some .int) 4 97 7 [(0, .ref b0), (1, .int b1), (2, .int b2), (3, .int b3), (4, .int b4), (5, .int b5), (6, .int b6)] [] h (some (.int r)) h') (b0 : Nat) (b1 : Int32) (b2 : Int32) (b3 : Int32) (b4 : Int32) (b5 : Int32) (b6 : Int32) (h : mH) (r : Int32) (h' : mH) (hf : f_M_leastOf_7b rec7 b0 b1 b2 b3 b4 b5 b6 h = some (r, h')) : G sc y_M_leastOf prog_10_method_56_code 10 (some .int) 4 97 7 [(0, .ref b0), (1, .int b1), (2, .int b2), (3, .int b3), (4, .int b4), (5, .int b5), (6, .int b6)] [] h (some (.int r)) h' := by
  unfold f_M_leastOf_7b at hf
  refine g_iload (pc := 7) 6 d_M_leastOf_7 rfl ?_
  refine g_iconst (pc := 9) (3 : Int32) d_M_leastOf_9 (by decide) ?_
  refine g_icmpgt (pc := 10) 99 d_M_leastOf_10 (by decide) (fun c1 => ?_) (fun c1 => ?_)
  · replace hf := (if_pos c1).symm.trans hf
    refine g_iload (pc := 99) 5 d_M_leastOf_99 rfl ?_
    obtain ⟨rfl, rfl⟩ := ret2 hf
    exact g_iret (pc := 101) rfl d_M_leastOf_101
  · replace hf := (if_neg c1).symm.trans hf
    refine g_iconst (pc := 13) (0 : Int32) d_M_leastOf_13 (by decide) ?_
    refine g_istore (pc := 14) [(7, .int (0 : Int32)), (0, .ref b0), (1, .int b1), (2, .int b2), (3, .int b3), (4, .int b4), (5, .int b5), (6, .int b6)] d_M_leastOf_14 (Nat.le_of_ble_eq_true rfl) rfl ?_
    refine g_lv [1, 2, 3, 4, 5, 6, 7, 0] rfl ?_
    exact t_M_leastOf_16 rec7 hrec7 FU _ _ _ _ _ _ _ _ _ _ _  hf
def f_M_leastOf_7  : Nat → Nat → Int32 → Int32 → Int32 → Int32 → Int32 → Int32 → mH → Option (Int32 × mH)
  | 0 => fun _ _ _ _ _ _ _ _ => none
  | n + 1 => f_M_leastOf_7b  (f_M_leastOf_7  n)
theorem t_M_leastOf_7 {sc : Nat × (Nat → Int32)}  : ∀ (n : Nat) (b0 : Nat) (b1 : Int32) (b2 : Int32) (b3 : Int32) (b4 : Int32) (b5 : Int32) (b6 : Int32) (h : mH) (r : Int32) (h' : mH) (hf : f_M_leastOf_7  n b0 b1 b2 b3 b4 b5 b6 h = some (r, h')), G sc y_M_leastOf prog_10_method_56_code 10 (some .int) 4 97 7 [(0, .ref b0), (1, .int b1), (2, .int b2), (3, .int b3), (4, .int b4), (5, .int b5), (6, .int b6)] [] h (some (.int r)) h'
  | 0, _, _, _, _, _, _, _, _, _, _, hf => by cases hf
  | n + 1, _, _, _, _, _, _, _, _, _, _, hf => t_M_leastOf_7b  (f_M_leastOf_7  n) (t_M_leastOf_7  n) _ _ _ _ _ _ _ _ _ _ hf
def f_M_leastOf_0  (a0 : Nat) (a1 : Int32) (a2 : Int32) (a3 : Int32) (a4 : Int32) (h : mH) : Option (Int32 × mH) :=
  f_M_leastOf_7  FU a0 a1 a2 a3 a4 (1000000 : Int32) (0 : Int32) h
set_option maxRecDepth 20000 in
theorem t_M_leastOf_0 {sc : Nat × (Nat → Int32)}  (a0 : Nat) (a1 : Int32) (a2 : Int32) (a3 : Int32) (a4 : Int32) (h : mH) (r : Int32) (h' : mH) (hf : f_M_leastOf_0  a0 a1 a2 a3 a4 h = some (r, h')) : G sc y_M_leastOf prog_10_method_56_code 10 (some .int) 4 97 0 [(0, .ref a0), (1, .int a1), (2, .int a2), (3, .int a3), (4, .int a4)] [] h (some (.int r)) h' := by
  unfold f_M_leastOf_0 at hf
  refine g_ldc (pc := 0) (1000000 : Int32) d_M_leastOf_0 wd_1272 ?_
  refine g_istore (pc := 2) [(5, .int (1000000 : Int32)), (0, .ref a0), (1, .int a1), (2, .int a2), (3, .int a3), (4, .int a4)] d_M_leastOf_2 (Nat.le_of_ble_eq_true rfl) rfl ?_
  refine g_iconst (pc := 4) (0 : Int32) d_M_leastOf_4 (by decide) ?_
  refine g_istore (pc := 5) [(6, .int (0 : Int32)), (5, .int (1000000 : Int32)), (0, .ref a0), (1, .int a1), (2, .int a2), (3, .int a3), (4, .int a4)] d_M_leastOf_5 (Nat.le_of_ble_eq_true rfl) rfl ?_
  refine g_lv [2, 3, 4, 5, 6, 1, 0] rfl ?_
  exact t_M_leastOf_7  FU _ _ _ _ _ _ _ _ _ _  hf
def f_M_leastOf (a0 : Nat) (a1 : Int32) (a2 : Int32) (a3 : Int32) (a4 : Int32) (h : mH) : Option (Int32 × mH) := f_M_leastOf_0 a0 a1 a2 a3 a4 h
theorem c_M_leastOf {sc : Nat × (Nat → Int32)} {a0 : Nat} {a1 : Int32} {a2 : Int32} {a3 : Int32} {a4 : Int32} {h : mH} {r : Int32} {h' : mH} (hf : f_M_leastOf a0 a1 a2 a3 a4 h = some (r, h')) : MM sc y_M_leastOf prog_10_method_56_code 10 (some .int) 4 97 [.ref a0, .int a1, .int a2, .int a3, .int a4] h (some (.int r)) h' :=
  mm_of_G (by decide) (Nat.le_of_ble_eq_true rfl) (t_M_leastOf_0 _ _ _ _ _ _ _ _ hf)
/-! M findRota ()I -/
set_option maxRecDepth 100000 in
theorem dd_M_findRota_0 : (decode prog_10_method_57_code 0 = .ok (.aload_n 0, 1)) ∧ (decode prog_10_method_57_code 1 = .ok (.getfield 106, 3)) ∧ (decode prog_10_method_57_code 4 = .ok (.istore_n 1, 1)) ∧ (decode prog_10_method_57_code 5 = .ok (.iload_n 1, 1)) ∧ (decode prog_10_method_57_code 6 = .ok (.ifCond .lt 99, 3)) ∧ (decode prog_10_method_57_code 9 = .ok (.iconst 0, 1)) ∧ (decode prog_10_method_57_code 10 = .ok (.istore_n 2, 1)) ∧ (decode prog_10_method_57_code 11 = .ok (.iload_n 2, 1)) ∧ (decode prog_10_method_57_code 12 = .ok (.aload_n 0, 1)) ∧ (decode prog_10_method_57_code 13 = .ok (.getfield 59, 3)) ∧ (decode prog_10_method_57_code 16 = .ok (.iconst 0, 1)) ∧ (decode prog_10_method_57_code 17 = .ok (.iaload, 1)) ∧ (decode prog_10_method_57_code 18 = .ok (.if_icmp .gt 81, 3)) ∧ (decode prog_10_method_57_code 21 = .ok (.iconst 0, 1)) ∧ (decode prog_10_method_57_code 22 = .ok (.istore_n 3, 1)) ∧ (decode prog_10_method_57_code 23 = .ok (.iload_n 3, 1)) ∧ (decode prog_10_method_57_code 24 = .ok (.aload_n 0, 1)) ∧ (decode prog_10_method_57_code 25 = .ok (.getfield 59, 3)) ∧ (decode prog_10_method_57_code 28 = .ok (.iconst 1, 1)) ∧ (decode prog_10_method_57_code 29 = .ok (.iaload, 1)) ∧ (decode prog_10_method_57_code 30 = .ok (.if_icmp .gt 63, 3)) ∧ (decode prog_10_method_57_code 33 = .ok (.iconst 0, 1)) ∧ (decode prog_10_method_57_code 34 = .ok (.istore 4, 2)) ∧ (decode prog_10_method_57_code 36 = .ok (.iload 4, 2)) := by
  have h : List.drop 0 prog_10_method_57_code.data.toList = 0x2a :: _ := rfl
  refine ⟨zq_k_n 42 h rfl (zq_o_42 _), ?_⟩
  replace h := zq_nx1 (q := 1) h rfl
  refine ⟨zq_k_u2 180 (fun z => .getfield z) 106 h rfl (zq_o_180 _) (by decide +kernel), ?_⟩
  replace h := zq_nx3 (q := 4) h rfl
  refine ⟨zq_k_n 60 h rfl (zq_o_60 _), ?_⟩
  replace h := zq_nx1 (q := 5) h rfl
  refine ⟨zq_k_n 27 h rfl (zq_o_27 _), ?_⟩
  replace h := zq_nx1 (q := 6) h rfl
  refine ⟨zq_k_s2 155 (fun z => .ifCond .lt z) 99 h rfl (zq_o_155 _) (by decide +kernel), ?_⟩
  replace h := zq_nx3 (q := 9) h rfl
  refine ⟨zq_k_n 3 h rfl (zq_o_3 _), ?_⟩
  replace h := zq_nx1 (q := 10) h rfl
  refine ⟨zq_k_n 61 h rfl (zq_o_61 _), ?_⟩
  replace h := zq_nx1 (q := 11) h rfl
  refine ⟨zq_k_n 28 h rfl (zq_o_28 _), ?_⟩
  replace h := zq_nx1 (q := 12) h rfl
  refine ⟨zq_k_n 42 h rfl (zq_o_42 _), ?_⟩
  replace h := zq_nx1 (q := 13) h rfl
  refine ⟨zq_k_u2 180 (fun z => .getfield z) 59 h rfl (zq_o_180 _) (by decide +kernel), ?_⟩
  replace h := zq_nx3 (q := 16) h rfl
  refine ⟨zq_k_n 3 h rfl (zq_o_3 _), ?_⟩
  replace h := zq_nx1 (q := 17) h rfl
  refine ⟨zq_k_n 46 h rfl (zq_o_46 _), ?_⟩
  replace h := zq_nx1 (q := 18) h rfl
  refine ⟨zq_k_s2 163 (fun z => .if_icmp .gt z) 81 h rfl (zq_o_163 _) (by decide +kernel), ?_⟩
  replace h := zq_nx3 (q := 21) h rfl
  refine ⟨zq_k_n 3 h rfl (zq_o_3 _), ?_⟩
  replace h := zq_nx1 (q := 22) h rfl
  refine ⟨zq_k_n 62 h rfl (zq_o_62 _), ?_⟩
  replace h := zq_nx1 (q := 23) h rfl
  refine ⟨zq_k_n 29 h rfl (zq_o_29 _), ?_⟩
  replace h := zq_nx1 (q := 24) h rfl
  refine ⟨zq_k_n 42 h rfl (zq_o_42 _), ?_⟩
  replace h := zq_nx1 (q := 25) h rfl
  refine ⟨zq_k_u2 180 (fun z => .getfield z) 59 h rfl (zq_o_180 _) (by decide +kernel), ?_⟩
  replace h := zq_nx3 (q := 28) h rfl
  refine ⟨zq_k_n 4 h rfl (zq_o_4 _), ?_⟩
  replace h := zq_nx1 (q := 29) h rfl
  refine ⟨zq_k_n 46 h rfl (zq_o_46 _), ?_⟩
  replace h := zq_nx1 (q := 30) h rfl
  refine ⟨zq_k_s2 163 (fun z => .if_icmp .gt z) 63 h rfl (zq_o_163 _) (by decide +kernel), ?_⟩
  replace h := zq_nx3 (q := 33) h rfl
  refine ⟨zq_k_n 3 h rfl (zq_o_3 _), ?_⟩
  replace h := zq_nx1 (q := 34) h rfl
  refine ⟨zq_k_u1 54 (fun z => .istore z) 4 h rfl (zq_o_54 _) (by decide +kernel), ?_⟩
  replace h := zq_nx2 (q := 36) h rfl
  exact zq_k_u1 21 (fun z => .iload z) 4 h rfl (zq_o_21 _) (by decide +kernel)
theorem d_M_findRota_0 : decode prog_10_method_57_code 0 = .ok (.aload_n 0, 1) := dd_M_findRota_0.1
theorem d_M_findRota_1 : decode prog_10_method_57_code 1 = .ok (.getfield 106, 3) := dd_M_findRota_0.2.1
theorem d_M_findRota_4 : decode prog_10_method_57_code 4 = .ok (.istore_n 1, 1) := dd_M_findRota_0.2.2.1
theorem d_M_findRota_5 : decode prog_10_method_57_code 5 = .ok (.iload_n 1, 1) := dd_M_findRota_0.2.2.2.1
theorem d_M_findRota_6 : decode prog_10_method_57_code 6 = .ok (.ifCond .lt 99, 3) := dd_M_findRota_0.2.2.2.2.1
theorem d_M_findRota_9 : decode prog_10_method_57_code 9 = .ok (.iconst 0, 1) := dd_M_findRota_0.2.2.2.2.2.1
theorem d_M_findRota_10 : decode prog_10_method_57_code 10 = .ok (.istore_n 2, 1) := dd_M_findRota_0.2.2.2.2.2.2.1
theorem d_M_findRota_11 : decode prog_10_method_57_code 11 = .ok (.iload_n 2, 1) := dd_M_findRota_0.2.2.2.2.2.2.2.1
theorem d_M_findRota_12 : decode prog_10_method_57_code 12 = .ok (.aload_n 0, 1) := dd_M_findRota_0.2.2.2.2.2.2.2.2.1
theorem d_M_findRota_13 : decode prog_10_method_57_code 13 = .ok (.getfield 59, 3) := dd_M_findRota_0.2.2.2.2.2.2.2.2.2.1
theorem d_M_findRota_16 : decode prog_10_method_57_code 16 = .ok (.iconst 0, 1) := dd_M_findRota_0.2.2.2.2.2.2.2.2.2.2.1
theorem d_M_findRota_17 : decode prog_10_method_57_code 17 = .ok (.iaload, 1) := dd_M_findRota_0.2.2.2.2.2.2.2.2.2.2.2.1
theorem d_M_findRota_18 : decode prog_10_method_57_code 18 = .ok (.if_icmp .gt 81, 3) := dd_M_findRota_0.2.2.2.2.2.2.2.2.2.2.2.2.1
theorem d_M_findRota_21 : decode prog_10_method_57_code 21 = .ok (.iconst 0, 1) := dd_M_findRota_0.2.2.2.2.2.2.2.2.2.2.2.2.2.1
theorem d_M_findRota_22 : decode prog_10_method_57_code 22 = .ok (.istore_n 3, 1) := dd_M_findRota_0.2.2.2.2.2.2.2.2.2.2.2.2.2.2.1
theorem d_M_findRota_23 : decode prog_10_method_57_code 23 = .ok (.iload_n 3, 1) := dd_M_findRota_0.2.2.2.2.2.2.2.2.2.2.2.2.2.2.2.1
theorem d_M_findRota_24 : decode prog_10_method_57_code 24 = .ok (.aload_n 0, 1) := dd_M_findRota_0.2.2.2.2.2.2.2.2.2.2.2.2.2.2.2.2.1
theorem d_M_findRota_25 : decode prog_10_method_57_code 25 = .ok (.getfield 59, 3) := dd_M_findRota_0.2.2.2.2.2.2.2.2.2.2.2.2.2.2.2.2.2.1
theorem d_M_findRota_28 : decode prog_10_method_57_code 28 = .ok (.iconst 1, 1) := dd_M_findRota_0.2.2.2.2.2.2.2.2.2.2.2.2.2.2.2.2.2.2.1
theorem d_M_findRota_29 : decode prog_10_method_57_code 29 = .ok (.iaload, 1) := dd_M_findRota_0.2.2.2.2.2.2.2.2.2.2.2.2.2.2.2.2.2.2.2.1
theorem d_M_findRota_30 : decode prog_10_method_57_code 30 = .ok (.if_icmp .gt 63, 3) := dd_M_findRota_0.2.2.2.2.2.2.2.2.2.2.2.2.2.2.2.2.2.2.2.2.1
theorem d_M_findRota_33 : decode prog_10_method_57_code 33 = .ok (.iconst 0, 1) := dd_M_findRota_0.2.2.2.2.2.2.2.2.2.2.2.2.2.2.2.2.2.2.2.2.2.1
theorem d_M_findRota_34 : decode prog_10_method_57_code 34 = .ok (.istore 4, 2) := dd_M_findRota_0.2.2.2.2.2.2.2.2.2.2.2.2.2.2.2.2.2.2.2.2.2.2.1
theorem d_M_findRota_36 : decode prog_10_method_57_code 36 = .ok (.iload 4, 2) := dd_M_findRota_0.2.2.2.2.2.2.2.2.2.2.2.2.2.2.2.2.2.2.2.2.2.2.2
set_option maxRecDepth 100000 in
theorem dd_M_findRota_38 : (decode prog_10_method_57_code 38 = .ok (.aload_n 0, 1)) ∧ (decode prog_10_method_57_code 39 = .ok (.getfield 59, 3)) ∧ (decode prog_10_method_57_code 42 = .ok (.iconst 2, 1)) ∧ (decode prog_10_method_57_code 43 = .ok (.iaload, 1)) ∧ (decode prog_10_method_57_code 44 = .ok (.if_icmp .gt 43, 3)) ∧ (decode prog_10_method_57_code 47 = .ok (.aload_n 0, 1)) ∧ (decode prog_10_method_57_code 48 = .ok (.getfield 53, 3)) ∧ (decode prog_10_method_57_code 51 = .ok (.iload_n 1, 1)) ∧ (decode prog_10_method_57_code 52 = .ok (.iload_n 2, 1)) ∧ (decode prog_10_method_57_code 53 = .ok (.iload_n 3, 1)) ∧ (decode prog_10_method_57_code 54 = .ok (.iload 4, 2)) ∧ (decode prog_10_method_57_code 56 = .ok (.invokestatic 247, 3)) ∧ (decode prog_10_method_57_code 59 = .ok (.iload_n 1, 1)) ∧ (decode prog_10_method_57_code 60 = .ok (.aload_n 0, 1)) ∧ (decode prog_10_method_57_code 61 = .ok (.getfield 106, 3)) ∧ (decode prog_10_method_57_code 64 = .ok (.if_icmp .ne 7, 3)) ∧ (decode prog_10_method_57_code 67 = .ok (.iconst 0, 1)) ∧ (decode prog_10_method_57_code 68 = .ok (.goto 12, 3)) ∧ (decode prog_10_method_57_code 71 = .ok (.aload_n 0, 1)) ∧ (decode prog_10_method_57_code 72 = .ok (.iload_n 1, 1)) ∧ (decode prog_10_method_57_code 73 = .ok (.iload_n 2, 1)) ∧ (decode prog_10_method_57_code 74 = .ok (.iload_n 3, 1)) ∧ (decode prog_10_method_57_code 75 = .ok (.iload 4, 2)) ∧ (decode prog_10_method_57_code 77 = .ok (.invokevirtual 257, 3)) := by
  have h : List.drop 38 prog_10_method_57_code.data.toList = 0x2a :: _ := rfl
  refine ⟨zq_k_n 42 h rfl (zq_o_42 _), ?_⟩
  replace h := zq_nx1 (q := 39) h rfl
  refine ⟨zq_k_u2 180 (fun z => .getfield z) 59 h rfl (zq_o_180 _) (by decide +kernel), ?_⟩
  replace h := zq_nx3 (q := 42) h rfl
  refine ⟨zq_k_n 5 h rfl (zq_o_5 _), ?_⟩
  replace h := zq_nx1 (q := 43) h rfl
  refine ⟨zq_k_n 46 h rfl (zq_o_46 _), ?_⟩
  replace h := zq_nx1 (q := 44) h rfl
  refine ⟨zq_k_s2 163 (fun z => .if_icmp .gt z) 43 h rfl (zq_o_163 _) (by decide +kernel), ?_⟩
  replace h := zq_nx3 (q := 47) h rfl
  refine ⟨zq_k_n 42 h rfl (zq_o_42 _), ?_⟩
  replace h := zq_nx1 (q := 48) h rfl
  refine ⟨zq_k_u2 180 (fun z => .getfield z) 53 h rfl (zq_o_180 _) (by decide +kernel), ?_⟩
  replace h := zq_nx3 (q := 51) h rfl
  refine ⟨zq_k_n 27 h rfl (zq_o_27 _), ?_⟩
  replace h := zq_nx1 (q := 52) h rfl
  refine ⟨zq_k_n 28 h rfl (zq_o_28 _), ?_⟩
  replace h := zq_nx1 (q := 53) h rfl
  refine ⟨zq_k_n 29 h rfl (zq_o_29 _), ?_⟩
  replace h := zq_nx1 (q := 54) h rfl
  refine ⟨zq_k_u1 21 (fun z => .iload z) 4 h rfl (zq_o_21 _) (by decide +kernel), ?_⟩
  replace h := zq_nx2 (q := 56) h rfl
  refine ⟨zq_k_u2 184 (fun z => .invokestatic z) 247 h rfl (zq_o_184 _) (by decide +kernel), ?_⟩
  replace h := zq_nx3 (q := 59) h rfl
  refine ⟨zq_k_n 27 h rfl (zq_o_27 _), ?_⟩
  replace h := zq_nx1 (q := 60) h rfl
  refine ⟨zq_k_n 42 h rfl (zq_o_42 _), ?_⟩
  replace h := zq_nx1 (q := 61) h rfl
  refine ⟨zq_k_u2 180 (fun z => .getfield z) 106 h rfl (zq_o_180 _) (by decide +kernel), ?_⟩
  replace h := zq_nx3 (q := 64) h rfl
  refine ⟨zq_k_s2 160 (fun z => .if_icmp .ne z) 7 h rfl (zq_o_160 _) (by decide +kernel), ?_⟩
  replace h := zq_nx3 (q := 67) h rfl
  refine ⟨zq_k_n 3 h rfl (zq_o_3 _), ?_⟩
  replace h := zq_nx1 (q := 68) h rfl
  refine ⟨zq_k_s2 167 (fun z => .goto z) 12 h rfl (zq_o_167 _) (by decide +kernel), ?_⟩
  replace h := zq_nx3 (q := 71) h rfl
  refine ⟨zq_k_n 42 h rfl (zq_o_42 _), ?_⟩
  replace h := zq_nx1 (q := 72) h rfl
  refine ⟨zq_k_n 27 h rfl (zq_o_27 _), ?_⟩
  replace h := zq_nx1 (q := 73) h rfl
  refine ⟨zq_k_n 28 h rfl (zq_o_28 _), ?_⟩
  replace h := zq_nx1 (q := 74) h rfl
  refine ⟨zq_k_n 29 h rfl (zq_o_29 _), ?_⟩
  replace h := zq_nx1 (q := 75) h rfl
  refine ⟨zq_k_u1 21 (fun z => .iload z) 4 h rfl (zq_o_21 _) (by decide +kernel), ?_⟩
  replace h := zq_nx2 (q := 77) h rfl
  exact zq_k_u2 182 (fun z => .invokevirtual z) 257 h rfl (zq_o_182 _) (by decide +kernel)
theorem d_M_findRota_38 : decode prog_10_method_57_code 38 = .ok (.aload_n 0, 1) := dd_M_findRota_38.1
theorem d_M_findRota_39 : decode prog_10_method_57_code 39 = .ok (.getfield 59, 3) := dd_M_findRota_38.2.1
theorem d_M_findRota_42 : decode prog_10_method_57_code 42 = .ok (.iconst 2, 1) := dd_M_findRota_38.2.2.1
theorem d_M_findRota_43 : decode prog_10_method_57_code 43 = .ok (.iaload, 1) := dd_M_findRota_38.2.2.2.1
theorem d_M_findRota_44 : decode prog_10_method_57_code 44 = .ok (.if_icmp .gt 43, 3) := dd_M_findRota_38.2.2.2.2.1
theorem d_M_findRota_47 : decode prog_10_method_57_code 47 = .ok (.aload_n 0, 1) := dd_M_findRota_38.2.2.2.2.2.1
theorem d_M_findRota_48 : decode prog_10_method_57_code 48 = .ok (.getfield 53, 3) := dd_M_findRota_38.2.2.2.2.2.2.1
theorem d_M_findRota_51 : decode prog_10_method_57_code 51 = .ok (.iload_n 1, 1) := dd_M_findRota_38.2.2.2.2.2.2.2.1
theorem d_M_findRota_52 : decode prog_10_method_57_code 52 = .ok (.iload_n 2, 1) := dd_M_findRota_38.2.2.2.2.2.2.2.2.1
theorem d_M_findRota_53 : decode prog_10_method_57_code 53 = .ok (.iload_n 3, 1) := dd_M_findRota_38.2.2.2.2.2.2.2.2.2.1
theorem d_M_findRota_54 : decode prog_10_method_57_code 54 = .ok (.iload 4, 2) := dd_M_findRota_38.2.2.2.2.2.2.2.2.2.2.1
theorem d_M_findRota_56 : decode prog_10_method_57_code 56 = .ok (.invokestatic 247, 3) := dd_M_findRota_38.2.2.2.2.2.2.2.2.2.2.2.1
theorem d_M_findRota_59 : decode prog_10_method_57_code 59 = .ok (.iload_n 1, 1) := dd_M_findRota_38.2.2.2.2.2.2.2.2.2.2.2.2.1
theorem d_M_findRota_60 : decode prog_10_method_57_code 60 = .ok (.aload_n 0, 1) := dd_M_findRota_38.2.2.2.2.2.2.2.2.2.2.2.2.2.1
theorem d_M_findRota_61 : decode prog_10_method_57_code 61 = .ok (.getfield 106, 3) := dd_M_findRota_38.2.2.2.2.2.2.2.2.2.2.2.2.2.2.1
theorem d_M_findRota_64 : decode prog_10_method_57_code 64 = .ok (.if_icmp .ne 7, 3) := dd_M_findRota_38.2.2.2.2.2.2.2.2.2.2.2.2.2.2.2.1
theorem d_M_findRota_67 : decode prog_10_method_57_code 67 = .ok (.iconst 0, 1) := dd_M_findRota_38.2.2.2.2.2.2.2.2.2.2.2.2.2.2.2.2.1
theorem d_M_findRota_68 : decode prog_10_method_57_code 68 = .ok (.goto 12, 3) := dd_M_findRota_38.2.2.2.2.2.2.2.2.2.2.2.2.2.2.2.2.2.1
theorem d_M_findRota_71 : decode prog_10_method_57_code 71 = .ok (.aload_n 0, 1) := dd_M_findRota_38.2.2.2.2.2.2.2.2.2.2.2.2.2.2.2.2.2.2.1
theorem d_M_findRota_72 : decode prog_10_method_57_code 72 = .ok (.iload_n 1, 1) := dd_M_findRota_38.2.2.2.2.2.2.2.2.2.2.2.2.2.2.2.2.2.2.2.1
theorem d_M_findRota_73 : decode prog_10_method_57_code 73 = .ok (.iload_n 2, 1) := dd_M_findRota_38.2.2.2.2.2.2.2.2.2.2.2.2.2.2.2.2.2.2.2.2.1
theorem d_M_findRota_74 : decode prog_10_method_57_code 74 = .ok (.iload_n 3, 1) := dd_M_findRota_38.2.2.2.2.2.2.2.2.2.2.2.2.2.2.2.2.2.2.2.2.2.1
theorem d_M_findRota_75 : decode prog_10_method_57_code 75 = .ok (.iload 4, 2) := dd_M_findRota_38.2.2.2.2.2.2.2.2.2.2.2.2.2.2.2.2.2.2.2.2.2.2.1
theorem d_M_findRota_77 : decode prog_10_method_57_code 77 = .ok (.invokevirtual 257, 3) := dd_M_findRota_38.2.2.2.2.2.2.2.2.2.2.2.2.2.2.2.2.2.2.2.2.2.2.2
set_option maxRecDepth 100000 in
theorem dd_M_findRota_80 : (decode prog_10_method_57_code 80 = .ok (.iastore, 1)) ∧ (decode prog_10_method_57_code 81 = .ok (.iinc 4 1, 3)) ∧ (decode prog_10_method_57_code 84 = .ok (.goto (-48), 3)) ∧ (decode prog_10_method_57_code 87 = .ok (.iinc 3 1, 3)) ∧ (decode prog_10_method_57_code 90 = .ok (.goto (-67), 3)) ∧ (decode prog_10_method_57_code 93 = .ok (.iinc 2 1, 3)) ∧ (decode prog_10_method_57_code 96 = .ok (.goto (-85), 3)) ∧ (decode prog_10_method_57_code 99 = .ok (.iinc 1 (-1), 3)) ∧ (decode prog_10_method_57_code 102 = .ok (.goto (-97), 3)) ∧ (decode prog_10_method_57_code 105 = .ok (.aload_n 0, 1)) ∧ (decode prog_10_method_57_code 106 = .ok (.getfield 53, 3)) ∧ (decode prog_10_method_57_code 109 = .ok (.iconst 0, 1)) ∧ (decode prog_10_method_57_code 110 = .ok (.aload_n 0, 1)) ∧ (decode prog_10_method_57_code 111 = .ok (.getfield 59, 3)) ∧ (decode prog_10_method_57_code 114 = .ok (.iconst 0, 1)) ∧ (decode prog_10_method_57_code 115 = .ok (.iaload, 1)) ∧ (decode prog_10_method_57_code 116 = .ok (.aload_n 0, 1)) ∧ (decode prog_10_method_57_code 117 = .ok (.getfield 59, 3)) ∧ (decode prog_10_method_57_code 120 = .ok (.iconst 1, 1)) ∧ (decode prog_10_method_57_code 121 = .ok (.iaload, 1)) ∧ (decode prog_10_method_57_code 122 = .ok (.aload_n 0, 1)) ∧ (decode prog_10_method_57_code 123 = .ok (.getfield 59, 3)) ∧ (decode prog_10_method_57_code 126 = .ok (.iconst 2, 1)) ∧ (decode prog_10_method_57_code 127 = .ok (.iaload, 1)) := by
  have h : List.drop 80 prog_10_method_57_code.data.toList = 0x4f :: _ := rfl
  refine ⟨zq_k_n 79 h rfl (zq_o_79 _), ?_⟩
  replace h := zq_nx1 (q := 81) h rfl
  refine ⟨zq_k_iinc 4 1 h rfl (zq_o_132 _) (by decide +kernel) (by decide +kernel), ?_⟩
  replace h := zq_nx3 (q := 84) h rfl
  refine ⟨zq_k_s2 167 (fun z => .goto z) (-48) h rfl (zq_o_167 _) (by decide +kernel), ?_⟩
  replace h := zq_nx3 (q := 87) h rfl
  refine ⟨zq_k_iinc 3 1 h rfl (zq_o_132 _) (by decide +kernel) (by decide +kernel), ?_⟩
  replace h := zq_nx3 (q := 90) h rfl
  refine ⟨zq_k_s2 167 (fun z => .goto z) (-67) h rfl (zq_o_167 _) (by decide +kernel), ?_⟩
  replace h := zq_nx3 (q := 93) h rfl
  refine ⟨zq_k_iinc 2 1 h rfl (zq_o_132 _) (by decide +kernel) (by decide +kernel), ?_⟩
  replace h := zq_nx3 (q := 96) h rfl
  refine ⟨zq_k_s2 167 (fun z => .goto z) (-85) h rfl (zq_o_167 _) (by decide +kernel), ?_⟩
  replace h := zq_nx3 (q := 99) h rfl
  refine ⟨zq_k_iinc 1 (-1) h rfl (zq_o_132 _) (by decide +kernel) (by decide +kernel), ?_⟩
  replace h := zq_nx3 (q := 102) h rfl
  refine ⟨zq_k_s2 167 (fun z => .goto z) (-97) h rfl (zq_o_167 _) (by decide +kernel), ?_⟩
  replace h := zq_nx3 (q := 105) h rfl
  refine ⟨zq_k_n 42 h rfl (zq_o_42 _), ?_⟩
  replace h := zq_nx1 (q := 106) h rfl
  refine ⟨zq_k_u2 180 (fun z => .getfield z) 53 h rfl (zq_o_180 _) (by decide +kernel), ?_⟩
  replace h := zq_nx3 (q := 109) h rfl
  refine ⟨zq_k_n 3 h rfl (zq_o_3 _), ?_⟩
  replace h := zq_nx1 (q := 110) h rfl
  refine ⟨zq_k_n 42 h rfl (zq_o_42 _), ?_⟩
  replace h := zq_nx1 (q := 111) h rfl
  refine ⟨zq_k_u2 180 (fun z => .getfield z) 59 h rfl (zq_o_180 _) (by decide +kernel), ?_⟩
  replace h := zq_nx3 (q := 114) h rfl
  refine ⟨zq_k_n 3 h rfl (zq_o_3 _), ?_⟩
  replace h := zq_nx1 (q := 115) h rfl
  refine ⟨zq_k_n 46 h rfl (zq_o_46 _), ?_⟩
  replace h := zq_nx1 (q := 116) h rfl
  refine ⟨zq_k_n 42 h rfl (zq_o_42 _), ?_⟩
  replace h := zq_nx1 (q := 117) h rfl
  refine ⟨zq_k_u2 180 (fun z => .getfield z) 59 h rfl (zq_o_180 _) (by decide +kernel), ?_⟩
  replace h := zq_nx3 (q := 120) h rfl
  refine ⟨zq_k_n 4 h rfl (zq_o_4 _), ?_⟩
  replace h := zq_nx1 (q := 121) h rfl
  refine ⟨zq_k_n 46 h rfl (zq_o_46 _), ?_⟩
  replace h := zq_nx1 (q := 122) h rfl
  refine ⟨zq_k_n 42 h rfl (zq_o_42 _), ?_⟩
  replace h := zq_nx1 (q := 123) h rfl
  refine ⟨zq_k_u2 180 (fun z => .getfield z) 59 h rfl (zq_o_180 _) (by decide +kernel), ?_⟩
  replace h := zq_nx3 (q := 126) h rfl
  refine ⟨zq_k_n 5 h rfl (zq_o_5 _), ?_⟩
  replace h := zq_nx1 (q := 127) h rfl
  exact zq_k_n 46 h rfl (zq_o_46 _)
theorem d_M_findRota_80 : decode prog_10_method_57_code 80 = .ok (.iastore, 1) := dd_M_findRota_80.1
theorem d_M_findRota_81 : decode prog_10_method_57_code 81 = .ok (.iinc 4 1, 3) := dd_M_findRota_80.2.1
theorem d_M_findRota_84 : decode prog_10_method_57_code 84 = .ok (.goto (-48), 3) := dd_M_findRota_80.2.2.1
theorem d_M_findRota_87 : decode prog_10_method_57_code 87 = .ok (.iinc 3 1, 3) := dd_M_findRota_80.2.2.2.1
theorem d_M_findRota_90 : decode prog_10_method_57_code 90 = .ok (.goto (-67), 3) := dd_M_findRota_80.2.2.2.2.1
theorem d_M_findRota_93 : decode prog_10_method_57_code 93 = .ok (.iinc 2 1, 3) := dd_M_findRota_80.2.2.2.2.2.1
theorem d_M_findRota_96 : decode prog_10_method_57_code 96 = .ok (.goto (-85), 3) := dd_M_findRota_80.2.2.2.2.2.2.1
theorem d_M_findRota_99 : decode prog_10_method_57_code 99 = .ok (.iinc 1 (-1), 3) := dd_M_findRota_80.2.2.2.2.2.2.2.1
theorem d_M_findRota_102 : decode prog_10_method_57_code 102 = .ok (.goto (-97), 3) := dd_M_findRota_80.2.2.2.2.2.2.2.2.1
theorem d_M_findRota_105 : decode prog_10_method_57_code 105 = .ok (.aload_n 0, 1) := dd_M_findRota_80.2.2.2.2.2.2.2.2.2.1
theorem d_M_findRota_106 : decode prog_10_method_57_code 106 = .ok (.getfield 53, 3) := dd_M_findRota_80.2.2.2.2.2.2.2.2.2.2.1
theorem d_M_findRota_109 : decode prog_10_method_57_code 109 = .ok (.iconst 0, 1) := dd_M_findRota_80.2.2.2.2.2.2.2.2.2.2.2.1
theorem d_M_findRota_110 : decode prog_10_method_57_code 110 = .ok (.aload_n 0, 1) := dd_M_findRota_80.2.2.2.2.2.2.2.2.2.2.2.2.1
theorem d_M_findRota_111 : decode prog_10_method_57_code 111 = .ok (.getfield 59, 3) := dd_M_findRota_80.2.2.2.2.2.2.2.2.2.2.2.2.2.1
theorem d_M_findRota_114 : decode prog_10_method_57_code 114 = .ok (.iconst 0, 1) := dd_M_findRota_80.2.2.2.2.2.2.2.2.2.2.2.2.2.2.1
theorem d_M_findRota_115 : decode prog_10_method_57_code 115 = .ok (.iaload, 1) := dd_M_findRota_80.2.2.2.2.2.2.2.2.2.2.2.2.2.2.2.1
theorem d_M_findRota_116 : decode prog_10_method_57_code 116 = .ok (.aload_n 0, 1) := dd_M_findRota_80.2.2.2.2.2.2.2.2.2.2.2.2.2.2.2.2.1
theorem d_M_findRota_117 : decode prog_10_method_57_code 117 = .ok (.getfield 59, 3) := dd_M_findRota_80.2.2.2.2.2.2.2.2.2.2.2.2.2.2.2.2.2.1
theorem d_M_findRota_120 : decode prog_10_method_57_code 120 = .ok (.iconst 1, 1) := dd_M_findRota_80.2.2.2.2.2.2.2.2.2.2.2.2.2.2.2.2.2.2.1
theorem d_M_findRota_121 : decode prog_10_method_57_code 121 = .ok (.iaload, 1) := dd_M_findRota_80.2.2.2.2.2.2.2.2.2.2.2.2.2.2.2.2.2.2.2.1
theorem d_M_findRota_122 : decode prog_10_method_57_code 122 = .ok (.aload_n 0, 1) := dd_M_findRota_80.2.2.2.2.2.2.2.2.2.2.2.2.2.2.2.2.2.2.2.2.1
theorem d_M_findRota_123 : decode prog_10_method_57_code 123 = .ok (.getfield 59, 3) := dd_M_findRota_80.2.2.2.2.2.2.2.2.2.2.2.2.2.2.2.2.2.2.2.2.2.1
theorem d_M_findRota_126 : decode prog_10_method_57_code 126 = .ok (.iconst 2, 1) := dd_M_findRota_80.2.2.2.2.2.2.2.2.2.2.2.2.2.2.2.2.2.2.2.2.2.2.1
theorem d_M_findRota_127 : decode prog_10_method_57_code 127 = .ok (.iaload, 1) := dd_M_findRota_80.2.2.2.2.2.2.2.2.2.2.2.2.2.2.2.2.2.2.2.2.2.2.2
set_option maxRecDepth 100000 in
theorem dd_M_findRota_128 : (decode prog_10_method_57_code 128 = .ok (.invokestatic 247, 3)) ∧ (decode prog_10_method_57_code 131 = .ok (.iaload, 1)) ∧ (decode prog_10_method_57_code 132 = .ok (.ireturn, 1)) := by
  have h : List.drop 128 prog_10_method_57_code.data.toList = 0xb8 :: _ := rfl
  refine ⟨zq_k_u2 184 (fun z => .invokestatic z) 247 h rfl (zq_o_184 _) (by decide +kernel), ?_⟩
  replace h := zq_nx3 (q := 131) h rfl
  refine ⟨zq_k_n 46 h rfl (zq_o_46 _), ?_⟩
  replace h := zq_nx1 (q := 132) h rfl
  exact zq_k_n 172 h rfl (zq_o_172 _)
theorem d_M_findRota_128 : decode prog_10_method_57_code 128 = .ok (.invokestatic 247, 3) := dd_M_findRota_128.1
theorem d_M_findRota_131 : decode prog_10_method_57_code 131 = .ok (.iaload, 1) := dd_M_findRota_128.2.1
theorem d_M_findRota_132 : decode prog_10_method_57_code 132 = .ok (.ireturn, 1) := dd_M_findRota_128.2.2
def f_M_findRota_80 (rec5 : Nat → Int32 → mH → Option (Int32 × mH)) (rec11 : Nat → Int32 → Int32 → mH → Option (Int32 × mH)) (rec23 : Nat → Int32 → Int32 → Int32 → mH → Option (Int32 × mH)) (rec36 : Nat → Int32 → Int32 → Int32 → Int32 → mH → Option (Int32 × mH)) (b0 : Nat) (b1 : Int32) (b2 : Int32) (b3 : Int32) (b4 : Int32) (s0 : Nat) (s1 : Int32) (s2 : Int32) (h : mH) : Option (Int32 × mH) :=
  bd1 (sI h 0 s0 s1 s2) fun h51 =>
  rec36 b0 b1 b2 b3 (b4 + (1 : Int32)) h51
set_option maxRecDepth 20000 in
theorem t_M_findRota_80 {sc : Nat × (Nat → Int32)} (rec5 : Nat → Int32 → mH → Option (Int32 × mH)) (hrec5 : ∀ (b0 : Nat) (b1 : Int32) (h : mH) (r : Int32) (h' : mH), rec5 b0 b1 h = some (r, h') → G sc y_M_findRota prog_10_method_57_code 5 (some .int) 5 126 5 [(0, .ref b0), (1, .int b1)] [] h (some (.int r)) h') (rec11 : Nat → Int32 → Int32 → mH → Option (Int32 × mH)) (hrec11 : ∀ (b0 : Nat) (b1 : Int32) (b2 : Int32) (h : mH) (r : Int32) (h' : mH), rec11 b0 b1 b2 h = some (r, h') → G sc y_M_findRota prog_10_method_57_code 5 (some .int) 5 126 11 [(0, .ref b0), (1, .int b1), (2, .int b2)] [] h (some (.int r)) h') (rec23 : Nat → Int32 → Int32 → Int32 → mH → Option (Int32 × mH)) (hrec23 : ∀ (b0 : Nat) (b1 : Int32) (b2 : Int32) (b3 : Int32) (h : mH) (r : Int32) (h' : mH), rec23 b0 b1 b2 b3 h = some (r, h') → G sc y_M_findRota prog_10_method_57_code 5 (some .int) 5 126 23 [(0, .ref b0), (1, .int b1), (2, .int b2), (3, .int b3)] [] h (some (.int r)) h') (rec36 : Nat → Int32 → Int32 → Int32 → Int32 → mH → Option (Int32 × mH)) (hrec36 : ∀ (b0 : Nat) (b1 : Int32) (b2 : Int32) (b3 : Int32) (b4 : Int32) (h : mH) (r : Int32) (h' : mH), rec36 b0 b1 b2 b3 b4 h = some (r, h') → G sc y_M_findRota prog_10_method_57_code 5 (some .int) 5 126 36 [(0, .ref b0), (1, .int b1), (2, .int b2), (3, .int b3), (4, .int b4)] [] h (some (.int r)) h') (b0 : Nat) (b1 : Int32) (b2 : Int32) (b3 : Int32) (b4 : Int32) (s0 : Nat) (s1 : Int32) (s2 : Int32) (h : mH) (r : Int32) (h' : mH) (hf : f_M_findRota_80 rec5 rec11 rec23 rec36 b0 b1 b2 b3 b4 s0 s1 s2 h = some (r, h')) : G sc y_M_findRota prog_10_method_57_code 5 (some .int) 5 126 80 [(0, .ref b0), (1, .int b1), (2, .int b2), (3, .int b3), (4, .int b4)] [.int s2, .int s1, .ref s0] h (some (.int r)) h' := by
  unfold f_M_findRota_80 at hf
  obtain ⟨h51, e52, hf⟩ := bd1_e hf
  refine g_iast (pc := 80) d_M_findRota_80 e52 ?_
  refine g_iinc (pc := 81) 4 (b4 + (1 : Int32)) [(4, .int (b4 + (1 : Int32))), (0, .ref b0), (1, .int b1), (2, .int b2), (3, .int b3)] d_M_findRota_81 rfl rfl (Nat.le_of_ble_eq_true rfl) rfl ?_
  refine g_goto (pc := 84) 36 d_M_findRota_84 (by decide) ?_
  refine g_lv [1, 2, 3, 4, 0] rfl ?_
  exact hrec36 _ _ _ _ _ _ _ _  hf
def f_M_findRota_36b (rec5 : Nat → Int32 → mH → Option (Int32 × mH)) (rec11 : Nat → Int32 → Int32 → mH → Option (Int32 × mH)) (rec23 : Nat → Int32 → Int32 → Int32 → mH → Option (Int32 × mH)) (rec36 : Nat → Int32 → Int32 → Int32 → Int32 → mH → Option (Int32 × mH)) (b0 : Nat) (b1 : Int32) (b2 : Int32) (b3 : Int32) (b4 : Int32) (h : mH) : Option (Int32 × mH) :=
  bd1 (gR h b0 8 29) fun x33 =>
  bd1 (aI h 0 x33 (2 : Int32)) fun x35 =>
  if x35 < b4 then
    rec23 b0 b1 b2 (b3 + (1 : Int32)) h
  else
    bd1 (gR h b0 8 27) fun x37 =>
    bd2 (f_M_at b1 b2 b3 b4 h) fun x41 h39 =>
    bd1 (gI h39 b0 8 2) fun x42 =>
    if b1 = x42 then
      f_M_findRota_80 rec5 rec11 rec23 rec36 b0 b1 b2 b3 b4 x37 x41 (0 : Int32) h39
    else
      bd1 (kC h39 b0 8) fun _ =>
      bd2 (f_M_leastOf b0 b1 b2 b3 b4 h39) fun x48 h46 =>
      f_M_findRota_80 rec5 rec11 rec23 rec36 b0 b1 b2 b3 b4 x37 x41 x48 h46
set_option maxRecDepth 20000 in
theorem t_M_findRota_36b {sc : Nat × (Nat → Int32)} (rec5 : Nat → Int32 → mH → Option (Int32 × mH)) (hrec5 : ∀ (b0 : Nat) (b1 : Int32) (h : mH) (r : Int32) (h' : mH), rec5 b0 b1 h = some (r, h') → G sc y_M_findRota prog_10_method_57_code 5 (some .int) 5 126 5 [(0, .ref b0), (1, .int b1)] [] h (some (.int r)) h') (rec11 : Nat → Int32 → Int32 → mH → Option (Int32 × mH)) (hrec11 : ∀ (b0 : Nat) (b1 : Int32) (b2 : Int32) (h : mH) (r : Int32) (h' : mH), rec11 b0 b1 b2 h = some (r, h') → G sc y_M_findRota prog_10_method_57_code 5 (some .int) 5 126 11 [(0, .ref b0), (1, .int b1), (2, .int b2)] [] h (some (.int r)) h') (rec23 : Nat → Int32 → Int32 → Int32 → mH → Option (Int32 × mH)) (hrec23 : ∀ (b0 : Nat) (b1 : Int32) (b2 : Int32) (b3 : Int32) (h : mH) (r : Int32) (h' : mH), rec23 b0 b1 b2 b3 h = some (r, h') → G sc y_M_findRota prog_10_method_57_code 5 (some .int) 5 126 23 [(0, .ref b0), (1, .int b1), (2, .int b2), (3, .int b3)] [] h (some (.int r)) h') (rec36 : Nat → Int32 → Int32 → Int32 → Int32 → mH → Option (Int32 × mH)) (hrec36 : ∀ (b0 : Nat) (b1 : Int32) (b2 : Int32) (b3 : Int32) (b4 : Int32) (h : mH) (r : Int32) (h' : mH), rec36 b0 b1 b2 b3 b4 h = some (r, h') → G sc y_M_findRota prog_10_method_57_code 5 (some .int) 5 126 36 [(0, .ref b0), (1, .int b1), (2, .int b2), (3, .int b3), (4, .int b4)] [] h (some (.int r)) h') (b0 : Nat) (b1 : Int32) (b2 : Int32) (b3 : Int32) (b4 : Int32) (h : mH) (r : Int32) (h' : mH) (hf : f_M_findRota_36b rec5 rec11 rec23 rec36 b0 b1 b2 b3 b4 h = some (r, h')) : G sc y_M_findRota prog_10_method_57_code 5 (some .int) 5 126 36 [(0, .ref b0), (1, .int b1), (2, .int b2), (3, .int b3), (4, .int b4)] [] h (some (.int r)) h' := by
  unfold f_M_findRota_36b at hf
  refine g_iload (pc := 36) 4 d_M_findRota_36 rfl ?_
  refine g_aload_n (pc := 38) 0 d_M_findRota_38 rfl rfl ?_
  obtain ⟨x33, e34, hf⟩ := bd1_e hf
  refine g_get (pc := 39) (ci := 8) (kk := 29) d_M_findRota_39 rfl in_M (by decide) wd_967 (gR_spec e34) ?_
  refine g_iconst (pc := 42) (2 : Int32) d_M_findRota_42 (by decide) ?_
  obtain ⟨x35, e36, hf⟩ := bd1_e hf
  refine g_iald (pc := 43) d_M_findRota_43 e36 ?_
  refine g_icmpgt (pc := 44) 87 d_M_findRota_44 (by decide) (fun c50 => ?_) (fun c50 => ?_)
  · replace hf := (if_pos c50).symm.trans hf
    refine g_iinc (pc := 87) 3 (b3 + (1 : Int32)) [(3, .int (b3 + (1 : Int32))), (0, .ref b0), (1, .int b1), (2, .int b2), (4, .int b4)] d_M_findRota_87 rfl rfl (Nat.le_of_ble_eq_true rfl) rfl ?_
    refine g_goto (pc := 90) 23 d_M_findRota_90 (by decide) ?_
    refine g_lv [1, 2, 3, 0] rfl ?_
    exact hrec23 _ _ _ _ _ _ _  hf
  · replace hf := (if_neg c50).symm.trans hf
    refine g_aload_n (pc := 47) 0 d_M_findRota_47 rfl rfl ?_
    obtain ⟨x37, e38, hf⟩ := bd1_e hf
    refine g_get (pc := 48) (ci := 8) (kk := 27) d_M_findRota_48 rfl in_M (by decide) wd_965 (gR_spec e38) ?_
    refine g_iload_n (pc := 51) 1 d_M_findRota_51 rfl rfl ?_
    refine g_iload_n (pc := 52) 2 d_M_findRota_52 rfl rfl ?_
    refine g_iload_n (pc := 53) 3 d_M_findRota_53 rfl rfl ?_
    refine g_iload (pc := 54) 4 d_M_findRota_54 rfl ?_
    obtain ⟨x41, h39, e40, hf⟩ := bd2_e hf
    refine g_callS (pc := 56) [.int b1, .int b2, .int b3, .int b4] (site_of si_M_at (by decide) (by decide)) wd_1265 wd_1266 d_M_findRota_56 (Nat.le_of_ble_eq_true rfl) (fun z => absurd z (by decide)) (fun z => absurd z (by decide)) (fun z => absurd z (by decide)) (c_M_at e40) rfl ?_
    refine g_st [.int x41, .ref x37] rfl ?_
    refine g_iload_n (pc := 59) 1 d_M_findRota_59 rfl rfl ?_
    refine g_aload_n (pc := 60) 0 d_M_findRota_60 rfl rfl ?_
    obtain ⟨x42, e43, hf⟩ := bd1_e hf
    refine g_get (pc := 61) (ci := 8) (kk := 2) d_M_findRota_61 rfl in_M (by decide) wd_940 (gI_spec e43) ?_
    refine g_icmpne (pc := 64) 71 d_M_findRota_64 (by decide) (fun c49 => ?_) (fun c49 => ?_)
    · replace hf := (if_neg c49).symm.trans hf
      refine g_aload_n (pc := 71) 0 d_M_findRota_71 rfl rfl ?_
      refine g_iload_n (pc := 72) 1 d_M_findRota_72 rfl rfl ?_
      refine g_iload_n (pc := 73) 2 d_M_findRota_73 rfl rfl ?_
      refine g_iload_n (pc := 74) 3 d_M_findRota_74 rfl rfl ?_
      refine g_iload (pc := 75) 4 d_M_findRota_75 rfl ?_
      obtain ⟨u45, e44, hf⟩ := bd1_e hf
      obtain ⟨x48, h46, e47, hf⟩ := bd2_e hf
      refine g_callV (pc := 77) (ci := 8) [.int b1, .int b2, .int b3, .int b4] (site_of si_M_leastOf (by decide) (by decide)) wd_1268 wd_1270 wp_59 d_M_findRota_77 rfl e44 (Nat.le_of_ble_eq_true rfl) (fun z => absurd z (by decide)) (fun z => absurd z (by decide)) (fun z => absurd z (by decide)) (c_M_leastOf e47) rfl ?_
      refine g_st [.int x48, .int x41, .ref x37] rfl ?_
      refine g_lv [0, 1, 2, 3, 4] rfl ?_
      exact t_M_findRota_80 rec5 hrec5 rec11 hrec11 rec23 hrec23 rec36 hrec36 _ _ _ _ _ _ _ _ _ _ _  hf
    · replace hf := (if_pos c49).symm.trans hf
      refine g_iconst (pc := 67) (0 : Int32) d_M_findRota_67 (by decide) ?_
      refine g_goto (pc := 68) 80 d_M_findRota_68 (by decide) ?_
      refine g_lv [0, 1, 2, 3, 4] rfl ?_
      exact t_M_findRota_80 rec5 hrec5 rec11 hrec11 rec23 hrec23 rec36 hrec36 _ _ _ _ _ _ _ _ _ _ _  hf
def f_M_findRota_36 (rec5 : Nat → Int32 → mH → Option (Int32 × mH)) (rec11 : Nat → Int32 → Int32 → mH → Option (Int32 × mH)) (rec23 : Nat → Int32 → Int32 → Int32 → mH → Option (Int32 × mH)) : Nat → Nat → Int32 → Int32 → Int32 → Int32 → mH → Option (Int32 × mH)
  | 0 => fun _ _ _ _ _ _ => none
  | n + 1 => f_M_findRota_36b rec5 rec11 rec23 (f_M_findRota_36 rec5 rec11 rec23 n)
theorem t_M_findRota_36 {sc : Nat × (Nat → Int32)} (rec5 : Nat → Int32 → mH → Option (Int32 × mH)) (hrec5 : ∀ (b0 : Nat) (b1 : Int32) (h : mH) (r : Int32) (h' : mH), rec5 b0 b1 h = some (r, h') → G sc y_M_findRota prog_10_method_57_code 5 (some .int) 5 126 5 [(0, .ref b0), (1, .int b1)] [] h (some (.int r)) h') (rec11 : Nat → Int32 → Int32 → mH → Option (Int32 × mH)) (hrec11 : ∀ (b0 : Nat) (b1 : Int32) (b2 : Int32) (h : mH) (r : Int32) (h' : mH), rec11 b0 b1 b2 h = some (r, h') → G sc y_M_findRota prog_10_method_57_code 5 (some .int) 5 126 11 [(0, .ref b0), (1, .int b1), (2, .int b2)] [] h (some (.int r)) h') (rec23 : Nat → Int32 → Int32 → Int32 → mH → Option (Int32 × mH)) (hrec23 : ∀ (b0 : Nat) (b1 : Int32) (b2 : Int32) (b3 : Int32) (h : mH) (r : Int32) (h' : mH), rec23 b0 b1 b2 b3 h = some (r, h') → G sc y_M_findRota prog_10_method_57_code 5 (some .int) 5 126 23 [(0, .ref b0), (1, .int b1), (2, .int b2), (3, .int b3)] [] h (some (.int r)) h') : ∀ (n : Nat) (b0 : Nat) (b1 : Int32) (b2 : Int32) (b3 : Int32) (b4 : Int32) (h : mH) (r : Int32) (h' : mH) (hf : f_M_findRota_36 rec5 rec11 rec23 n b0 b1 b2 b3 b4 h = some (r, h')), G sc y_M_findRota prog_10_method_57_code 5 (some .int) 5 126 36 [(0, .ref b0), (1, .int b1), (2, .int b2), (3, .int b3), (4, .int b4)] [] h (some (.int r)) h'
  | 0, _, _, _, _, _, _, _, _, hf => by cases hf
  | n + 1, _, _, _, _, _, _, _, _, hf => t_M_findRota_36b rec5 hrec5 rec11 hrec11 rec23 hrec23 (f_M_findRota_36 rec5 rec11 rec23 n) (t_M_findRota_36 rec5 hrec5 rec11 hrec11 rec23 hrec23 n) _ _ _ _ _ _ _ _ hf
def f_M_findRota_23b (rec5 : Nat → Int32 → mH → Option (Int32 × mH)) (rec11 : Nat → Int32 → Int32 → mH → Option (Int32 × mH)) (rec23 : Nat → Int32 → Int32 → Int32 → mH → Option (Int32 × mH)) (b0 : Nat) (b1 : Int32) (b2 : Int32) (b3 : Int32) (h : mH) : Option (Int32 × mH) :=
  bd1 (gR h b0 8 29) fun x28 =>
  bd1 (aI h 0 x28 (1 : Int32)) fun x30 =>
  if x30 < b3 then
    rec11 b0 b1 (b2 + (1 : Int32)) h
  else
    f_M_findRota_36 rec5 rec11 rec23 FU b0 b1 b2 b3 (0 : Int32) h
set_option maxRecDepth 20000 in
theorem t_M_findRota_23b {sc : Nat × (Nat → Int32)} (rec5 : Nat → Int32 → mH → Option (Int32 × mH)) (hrec5 : ∀ (b0 : Nat) (b1 : Int32) (h : mH) (r : Int32) (h' : mH), rec5 b0 b1 h = some (r, h') → G sc y_M_findRota prog_10_method_57_code 5 (some .int) 5 126 5 [(0, .ref b0), (1, .int b1)] [] h (some (.int r)) h') (rec11 : Nat → Int32 → Int32 → mH → Option (Int32 × mH)) (hrec11 : ∀ (b0 : Nat) (b1 : Int32) (b2 : Int32) (h : mH) (r : Int32) (h' : mH), rec11 b0 b1 b2 h = some (r, h') → G sc y_M_findRota prog_10_method_57_code 5 (some .int) 5 126 11 [(0, .ref b0), (1, .int b1), (2, .int b2)] [] h (some (.int r)) h') (rec23 : Nat → Int32 → Int32 → Int32 → mH → Option (Int32 × mH)) (hrec23 : ∀ (b0 : Nat) (b1 : Int32) (b2 : Int32) (b3 : Int32) (h : mH) (r : Int32) (h' : mH), rec23 b0 b1 b2 b3 h = some (r, h') → G sc y_M_findRota prog_10_method_57_code 5 (some .int) 5 126 23 [(0, .ref b0), (1, .int b1), (2, .int b2), (3, .int b3)] [] h (some (.int r)) h') (b0 : Nat) (b1 : Int32) (b2 : Int32) (b3 : Int32) (h : mH) (r : Int32) (h' : mH) (hf : f_M_findRota_23b rec5 rec11 rec23 b0 b1 b2 b3 h = some (r, h')) : G sc y_M_findRota prog_10_method_57_code 5 (some .int) 5 126 23 [(0, .ref b0), (1, .int b1), (2, .int b2), (3, .int b3)] [] h (some (.int r)) h' := by
  unfold f_M_findRota_23b at hf
  refine g_iload_n (pc := 23) 3 d_M_findRota_23 rfl rfl ?_
  refine g_aload_n (pc := 24) 0 d_M_findRota_24 rfl rfl ?_
  obtain ⟨x28, e29, hf⟩ := bd1_e hf
  refine g_get (pc := 25) (ci := 8) (kk := 29) d_M_findRota_25 rfl in_M (by decide) wd_967 (gR_spec e29) ?_
  refine g_iconst (pc := 28) (1 : Int32) d_M_findRota_28 (by decide) ?_
  obtain ⟨x30, e31, hf⟩ := bd1_e hf
  refine g_iald (pc := 29) d_M_findRota_29 e31 ?_
  refine g_icmpgt (pc := 30) 93 d_M_findRota_30 (by decide) (fun c32 => ?_) (fun c32 => ?_)
  · replace hf := (if_pos c32).symm.trans hf
    refine g_iinc (pc := 93) 2 (b2 + (1 : Int32)) [(2, .int (b2 + (1 : Int32))), (0, .ref b0), (1, .int b1), (3, .int b3)] d_M_findRota_93 rfl rfl (Nat.le_of_ble_eq_true rfl) rfl ?_
    refine g_goto (pc := 96) 11 d_M_findRota_96 (by decide) ?_
    refine g_lv [1, 2, 0] rfl ?_
    exact hrec11 _ _ _ _ _ _  hf
  · replace hf := (if_neg c32).symm.trans hf
    refine g_iconst (pc := 33) (0 : Int32) d_M_findRota_33 (by decide) ?_
    refine g_istore (pc := 34) [(4, .int (0 : Int32)), (0, .ref b0), (1, .int b1), (2, .int b2), (3, .int b3)] d_M_findRota_34 (Nat.le_of_ble_eq_true rfl) rfl ?_
    refine g_lv [1, 2, 3, 4, 0] rfl ?_
    exact t_M_findRota_36 rec5 hrec5 rec11 hrec11 rec23 hrec23 FU _ _ _ _ _ _ _ _  hf
def f_M_findRota_23 (rec5 : Nat → Int32 → mH → Option (Int32 × mH)) (rec11 : Nat → Int32 → Int32 → mH → Option (Int32 × mH)) : Nat → Nat → Int32 → Int32 → Int32 → mH → Option (Int32 × mH)
  | 0 => fun _ _ _ _ _ => none
  | n + 1 => f_M_findRota_23b rec5 rec11 (f_M_findRota_23 rec5 rec11 n)
theorem t_M_findRota_23 {sc : Nat × (Nat → Int32)} (rec5 : Nat → Int32 → mH → Option (Int32 × mH)) (hrec5 : ∀ (b0 : Nat) (b1 : Int32) (h : mH) (r : Int32) (h' : mH), rec5 b0 b1 h = some (r, h') → G sc y_M_findRota prog_10_method_57_code 5 (some .int) 5 126 5 [(0, .ref b0), (1, .int b1)] [] h (some (.int r)) h') (rec11 : Nat → Int32 → Int32 → mH → Option (Int32 × mH)) (hrec11 : ∀ (b0 : Nat) (b1 : Int32) (b2 : Int32) (h : mH) (r : Int32) (h' : mH), rec11 b0 b1 b2 h = some (r, h') → G sc y_M_findRota prog_10_method_57_code 5 (some .int) 5 126 11 [(0, .ref b0), (1, .int b1), (2, .int b2)] [] h (some (.int r)) h') : ∀ (n : Nat) (b0 : Nat) (b1 : Int32) (b2 : Int32) (b3 : Int32) (h : mH) (r : Int32) (h' : mH) (hf : f_M_findRota_23 rec5 rec11 n b0 b1 b2 b3 h = some (r, h')), G sc y_M_findRota prog_10_method_57_code 5 (some .int) 5 126 23 [(0, .ref b0), (1, .int b1), (2, .int b2), (3, .int b3)] [] h (some (.int r)) h'
  | 0, _, _, _, _, _, _, _, hf => by cases hf
  | n + 1, _, _, _, _, _, _, _, hf => t_M_findRota_23b rec5 hrec5 rec11 hrec11 (f_M_findRota_23 rec5 rec11 n) (t_M_findRota_23 rec5 hrec5 rec11 hrec11 n) _ _ _ _ _ _ _ hf
def f_M_findRota_11b (rec5 : Nat → Int32 → mH → Option (Int32 × mH)) (rec11 : Nat → Int32 → Int32 → mH → Option (Int32 × mH)) (b0 : Nat) (b1 : Int32) (b2 : Int32) (h : mH) : Option (Int32 × mH) :=
  bd1 (gR h b0 8 29) fun x23 =>
  bd1 (aI h 0 x23 (0 : Int32)) fun x25 =>
  if x25 < b2 then
    rec5 b0 (b1 + ((-1) : Int32)) h
  else
    f_M_findRota_23 rec5 rec11 FU b0 b1 b2 (0 : Int32) h
set_option maxRecDepth 20000 in
theorem t_M_findRota_11b {sc : Nat × (Nat → Int32)} (rec5 : Nat → Int32 → mH → Option (Int32 × mH)) (hrec5 : ∀ (b0 : Nat) (b1 : Int32) (h : mH) (r : Int32) (h' : mH), rec5 b0 b1 h = some (r, h') → G sc y_M_findRota prog_10_method_57_code 5 (some .int) 5 126 5 [(0, .ref b0), (1, .int b1)] [] h (some (.int r)) h') (rec11 : Nat → Int32 → Int32 → mH → Option (Int32 × mH)) (hrec11 : ∀ (b0 : Nat) (b1 : Int32) (b2 : Int32) (h : mH) (r : Int32) (h' : mH), rec11 b0 b1 b2 h = some (r, h') → G sc y_M_findRota prog_10_method_57_code 5 (some .int) 5 126 11 [(0, .ref b0), (1, .int b1), (2, .int b2)] [] h (some (.int r)) h') (b0 : Nat) (b1 : Int32) (b2 : Int32) (h : mH) (r : Int32) (h' : mH) (hf : f_M_findRota_11b rec5 rec11 b0 b1 b2 h = some (r, h')) : G sc y_M_findRota prog_10_method_57_code 5 (some .int) 5 126 11 [(0, .ref b0), (1, .int b1), (2, .int b2)] [] h (some (.int r)) h' := by
  unfold f_M_findRota_11b at hf
  refine g_iload_n (pc := 11) 2 d_M_findRota_11 rfl rfl ?_
  refine g_aload_n (pc := 12) 0 d_M_findRota_12 rfl rfl ?_
  obtain ⟨x23, e24, hf⟩ := bd1_e hf
  refine g_get (pc := 13) (ci := 8) (kk := 29) d_M_findRota_13 rfl in_M (by decide) wd_967 (gR_spec e24) ?_
  refine g_iconst (pc := 16) (0 : Int32) d_M_findRota_16 (by decide) ?_
  obtain ⟨x25, e26, hf⟩ := bd1_e hf
  refine g_iald (pc := 17) d_M_findRota_17 e26 ?_
  refine g_icmpgt (pc := 18) 99 d_M_findRota_18 (by decide) (fun c27 => ?_) (fun c27 => ?_)
  · replace hf := (if_pos c27).symm.trans hf
    refine g_iinc (pc := 99) 1 (b1 + ((-1) : Int32)) [(1, .int (b1 + ((-1) : Int32))), (0, .ref b0), (2, .int b2)] d_M_findRota_99 rfl rfl (Nat.le_of_ble_eq_true rfl) rfl ?_
    refine g_goto (pc := 102) 5 d_M_findRota_102 (by decide) ?_
    refine g_lv [1, 0] rfl ?_
    exact hrec5 _ _ _ _ _  hf
  · replace hf := (if_neg c27).symm.trans hf
    refine g_iconst (pc := 21) (0 : Int32) d_M_findRota_21 (by decide) ?_
    refine g_istore_n (pc := 22) [(3, .int (0 : Int32)), (0, .ref b0), (1, .int b1), (2, .int b2)] d_M_findRota_22 rfl (Nat.le_of_ble_eq_true rfl) rfl ?_
    refine g_lv [1, 2, 3, 0] rfl ?_
    exact t_M_findRota_23 rec5 hrec5 rec11 hrec11 FU _ _ _ _ _ _ _  hf
def f_M_findRota_11 (rec5 : Nat → Int32 → mH → Option (Int32 × mH)) : Nat → Nat → Int32 → Int32 → mH → Option (Int32 × mH)
  | 0 => fun _ _ _ _ => none
  | n + 1 => f_M_findRota_11b rec5 (f_M_findRota_11 rec5 n)
theorem t_M_findRota_11 {sc : Nat × (Nat → Int32)} (rec5 : Nat → Int32 → mH → Option (Int32 × mH)) (hrec5 : ∀ (b0 : Nat) (b1 : Int32) (h : mH) (r : Int32) (h' : mH), rec5 b0 b1 h = some (r, h') → G sc y_M_findRota prog_10_method_57_code 5 (some .int) 5 126 5 [(0, .ref b0), (1, .int b1)] [] h (some (.int r)) h') : ∀ (n : Nat) (b0 : Nat) (b1 : Int32) (b2 : Int32) (h : mH) (r : Int32) (h' : mH) (hf : f_M_findRota_11 rec5 n b0 b1 b2 h = some (r, h')), G sc y_M_findRota prog_10_method_57_code 5 (some .int) 5 126 11 [(0, .ref b0), (1, .int b1), (2, .int b2)] [] h (some (.int r)) h'
  | 0, _, _, _, _, _, _, hf => by cases hf
  | n + 1, _, _, _, _, _, _, hf => t_M_findRota_11b rec5 hrec5 (f_M_findRota_11 rec5 n) (t_M_findRota_11 rec5 hrec5 n) _ _ _ _ _ _ hf
def f_M_findRota_5b (rec5 : Nat → Int32 → mH → Option (Int32 × mH)) (b0 : Nat) (b1 : Int32) (h : mH) : Option (Int32 × mH) :=
  if b1 < 0 then
    bd1 (gR h b0 8 27) fun x3 =>
    bd1 (gR h b0 8 29) fun x5 =>
    bd1 (aI h 0 x5 (0 : Int32)) fun x7 =>
    bd1 (gR h b0 8 29) fun x9 =>
    bd1 (aI h 0 x9 (1 : Int32)) fun x11 =>
    bd1 (gR h b0 8 29) fun x13 =>
    bd1 (aI h 0 x13 (2 : Int32)) fun x15 =>
    bd2 (f_M_at (0 : Int32) x7 x11 x15 h) fun x19 h17 =>
    bd1 (aI h17 0 x3 x19) fun x20 =>
    some (x20, h17)
  else
    f_M_findRota_11 rec5 FU b0 b1 (0 : Int32) h
set_option maxRecDepth 20000 in
theorem t_M_findRota_5b {sc : Nat × (Nat → Int32)} (rec5 : Nat → Int32 → mH → Option (Int32 × mH)) (hrec5 : ∀ (b0 : Nat) (b1 : Int32) (h : mH) (r : Int32) (h' : mH), rec5 b0 b1 h = some (r, h') → G sc y_M_findRota prog_10_method_57_code 5 (some .int) 5 126 5 [(0, .ref b0), (1, .int b1)] [] h (some (.int r)) h') (b0 : Nat) (b1 : Int32) (h : mH) (r : Int32) (h' : mH) (hf : f_M_findRota_5b rec5 b0 b1 h = some (r, h')) : G sc y_M_findRota prog_10_method_57_code 5 (some .int) 5 126 5 [(0, .ref b0), (1, .int b1)] [] h (some (.int r)) h' := by
  unfold f_M_findRota_5b at hf
  refine g_iload_n (pc := 5) 1 d_M_findRota_5 rfl rfl ?_
  refine g_iflt (pc := 6) 105 d_M_findRota_6 (by decide) (fun c22 => ?_) (fun c22 => ?_)
  · replace hf := (if_pos c22).symm.trans hf
    refine g_aload_n (pc := 105) 0 d_M_findRota_105 rfl rfl ?_
    obtain ⟨x3, e4, hf⟩ := bd1_e hf
    refine g_get (pc := 106) (ci := 8) (kk := 27) d_M_findRota_106 rfl in_M (by decide) wd_965 (gR_spec e4) ?_
    refine g_iconst (pc := 109) (0 : Int32) d_M_findRota_109 (by decide) ?_
    refine g_aload_n (pc := 110) 0 d_M_findRota_110 rfl rfl ?_
    obtain ⟨x5, e6, hf⟩ := bd1_e hf
    refine g_get (pc := 111) (ci := 8) (kk := 29) d_M_findRota_111 rfl in_M (by decide) wd_967 (gR_spec e6) ?_
    refine g_iconst (pc := 114) (0 : Int32) d_M_findRota_114 (by decide) ?_
    obtain ⟨x7, e8, hf⟩ := bd1_e hf
    refine g_iald (pc := 115) d_M_findRota_115 e8 ?_
    refine g_aload_n (pc := 116) 0 d_M_findRota_116 rfl rfl ?_
    obtain ⟨x9, e10, hf⟩ := bd1_e hf
    refine g_get (pc := 117) (ci := 8) (kk := 29) d_M_findRota_117 rfl in_M (by decide) wd_967 (gR_spec e10) ?_
    refine g_iconst (pc := 120) (1 : Int32) d_M_findRota_120 (by decide) ?_
    obtain ⟨x11, e12, hf⟩ := bd1_e hf
    refine g_iald (pc := 121) d_M_findRota_121 e12 ?_
    refine g_aload_n (pc := 122) 0 d_M_findRota_122 rfl rfl ?_
    obtain ⟨x13, e14, hf⟩ := bd1_e hf
    refine g_get (pc := 123) (ci := 8) (kk := 29) d_M_findRota_123 rfl in_M (by decide) wd_967 (gR_spec e14) ?_
    refine g_iconst (pc := 126) (2 : Int32) d_M_findRota_126 (by decide) ?_
    obtain ⟨x15, e16, hf⟩ := bd1_e hf
    refine g_iald (pc := 127) d_M_findRota_127 e16 ?_
    obtain ⟨x19, h17, e18, hf⟩ := bd2_e hf
    refine g_callS (pc := 128) [.int (0 : Int32), .int x7, .int x11, .int x15] (site_of si_M_at (by decide) (by decide)) wd_1265 wd_1266 d_M_findRota_128 (Nat.le_of_ble_eq_true rfl) (fun z => absurd z (by decide)) (fun z => absurd z (by decide)) (fun z => absurd z (by decide)) (c_M_at e18) rfl ?_
    refine g_st [.int x19, .ref x3] rfl ?_
    obtain ⟨x20, e21, hf⟩ := bd1_e hf
    refine g_iald (pc := 131) d_M_findRota_131 e21 ?_
    obtain ⟨rfl, rfl⟩ := ret2 hf
    exact g_iret (pc := 132) rfl d_M_findRota_132
  · replace hf := (if_neg c22).symm.trans hf
    refine g_iconst (pc := 9) (0 : Int32) d_M_findRota_9 (by decide) ?_
    refine g_istore_n (pc := 10) [(2, .int (0 : Int32)), (0, .ref b0), (1, .int b1)] d_M_findRota_10 rfl (Nat.le_of_ble_eq_true rfl) rfl ?_
    refine g_lv [1, 2, 0] rfl ?_
    exact t_M_findRota_11 rec5 hrec5 FU _ _ _ _ _ _  hf
def f_M_findRota_5  : Nat → Nat → Int32 → mH → Option (Int32 × mH)
  | 0 => fun _ _ _ => none
  | n + 1 => f_M_findRota_5b  (f_M_findRota_5  n)
theorem t_M_findRota_5 {sc : Nat × (Nat → Int32)}  : ∀ (n : Nat) (b0 : Nat) (b1 : Int32) (h : mH) (r : Int32) (h' : mH) (hf : f_M_findRota_5  n b0 b1 h = some (r, h')), G sc y_M_findRota prog_10_method_57_code 5 (some .int) 5 126 5 [(0, .ref b0), (1, .int b1)] [] h (some (.int r)) h'
  | 0, _, _, _, _, _, hf => by cases hf
  | n + 1, _, _, _, _, _, hf => t_M_findRota_5b  (f_M_findRota_5  n) (t_M_findRota_5  n) _ _ _ _ _ hf
def f_M_findRota_0  (a0 : Nat) (h : mH) : Option (Int32 × mH) :=
  bd1 (gI h a0 8 2) fun x1 =>
  f_M_findRota_5  FU a0 x1 h
set_option maxRecDepth 20000 in
theorem t_M_findRota_0 {sc : Nat × (Nat → Int32)}  (a0 : Nat) (h : mH) (r : Int32) (h' : mH) (hf : f_M_findRota_0  a0 h = some (r, h')) : G sc y_M_findRota prog_10_method_57_code 5 (some .int) 5 126 0 [(0, .ref a0)] [] h (some (.int r)) h' := by
  unfold f_M_findRota_0 at hf
  refine g_aload_n (pc := 0) 0 d_M_findRota_0 rfl rfl ?_
  obtain ⟨x1, e2, hf⟩ := bd1_e hf
  refine g_get (pc := 1) (ci := 8) (kk := 2) d_M_findRota_1 rfl in_M (by decide) wd_940 (gI_spec e2) ?_
  refine g_istore_n (pc := 4) [(1, .int x1), (0, .ref a0)] d_M_findRota_4 rfl (Nat.le_of_ble_eq_true rfl) rfl ?_
  refine g_lv [1, 0] rfl ?_
  exact t_M_findRota_5  FU _ _ _ _ _  hf
def f_M_findRota (a0 : Nat) (h : mH) : Option (Int32 × mH) := f_M_findRota_0 a0 h
theorem c_M_findRota {sc : Nat × (Nat → Int32)} {a0 : Nat} {h : mH} {r : Int32} {h' : mH} (hf : f_M_findRota a0 h = some (r, h')) : MM sc y_M_findRota prog_10_method_57_code 5 (some .int) 5 126 [.ref a0] h (some (.int r)) h' :=
  mm_of_G (by decide) (Nat.le_of_ble_eq_true rfl) (t_M_findRota_0 _ _ _ _ hf)
/-! M sharesOf (IIII)V -/
set_option maxRecDepth 100000 in
theorem dd_M_sharesOf_0 : (decode prog_10_method_59_code 0 = .ok (.aload_n 0, 1)) ∧ (decode prog_10_method_59_code 1 = .ok (.getfield 53, 3)) ∧ (decode prog_10_method_59_code 4 = .ok (.iload_n 1, 1)) ∧ (decode prog_10_method_59_code 5 = .ok (.iload_n 2, 1)) ∧ (decode prog_10_method_59_code 6 = .ok (.iload_n 3, 1)) ∧ (decode prog_10_method_59_code 7 = .ok (.iload 4, 2)) ∧ (decode prog_10_method_59_code 9 = .ok (.invokestatic 247, 3)) ∧ (decode prog_10_method_59_code 12 = .ok (.iaload, 1)) ∧ (decode prog_10_method_59_code 13 = .ok (.istore 5, 2)) ∧ (decode prog_10_method_59_code 15 = .ok (.iconst 0, 1)) ∧ (decode prog_10_method_59_code 16 = .ok (.istore 6, 2)) ∧ (decode prog_10_method_59_code 18 = .ok (.iconst 0, 1)) ∧ (decode prog_10_method_59_code 19 = .ok (.istore 7, 2)) ∧ (decode prog_10_method_59_code 21 = .ok (.iload 7, 2)) ∧ (decode prog_10_method_59_code 23 = .ok (.iconst 3, 1)) ∧ (decode prog_10_method_59_code 24 = .ok (.if_icmp .gt 103, 3)) ∧ (decode prog_10_method_59_code 27 = .ok (.iconst 0, 1)) ∧ (decode prog_10_method_59_code 28 = .ok (.istore 8, 2)) ∧ (decode prog_10_method_59_code 30 = .ok (.iload 8, 2)) ∧ (decode prog_10_method_59_code 32 = .ok (.iconst 3, 1)) ∧ (decode prog_10_method_59_code 33 = .ok (.if_icmp .gt 88, 3)) ∧ (decode prog_10_method_59_code 36 = .ok (.aload_n 0, 1)) ∧ (decode prog_10_method_59_code 37 = .ok (.getfield 56, 3)) ∧ (decode prog_10_method_59_code 40 = .ok (.iload_n 1, 1)) := by
  have h : List.drop 0 prog_10_method_59_code.data.toList = 0x2a :: _ := rfl
  refine ⟨zq_k_n 42 h rfl (zq_o_42 _), ?_⟩
  replace h := zq_nx1 (q := 1) h rfl
  refine ⟨zq_k_u2 180 (fun z => .getfield z) 53 h rfl (zq_o_180 _) (by decide +kernel), ?_⟩
  replace h := zq_nx3 (q := 4) h rfl
  refine ⟨zq_k_n 27 h rfl (zq_o_27 _), ?_⟩
  replace h := zq_nx1 (q := 5) h rfl
  refine ⟨zq_k_n 28 h rfl (zq_o_28 _), ?_⟩
  replace h := zq_nx1 (q := 6) h rfl
  refine ⟨zq_k_n 29 h rfl (zq_o_29 _), ?_⟩
  replace h := zq_nx1 (q := 7) h rfl
  refine ⟨zq_k_u1 21 (fun z => .iload z) 4 h rfl (zq_o_21 _) (by decide +kernel), ?_⟩
  replace h := zq_nx2 (q := 9) h rfl
  refine ⟨zq_k_u2 184 (fun z => .invokestatic z) 247 h rfl (zq_o_184 _) (by decide +kernel), ?_⟩
  replace h := zq_nx3 (q := 12) h rfl
  refine ⟨zq_k_n 46 h rfl (zq_o_46 _), ?_⟩
  replace h := zq_nx1 (q := 13) h rfl
  refine ⟨zq_k_u1 54 (fun z => .istore z) 5 h rfl (zq_o_54 _) (by decide +kernel), ?_⟩
  replace h := zq_nx2 (q := 15) h rfl
  refine ⟨zq_k_n 3 h rfl (zq_o_3 _), ?_⟩
  replace h := zq_nx1 (q := 16) h rfl
  refine ⟨zq_k_u1 54 (fun z => .istore z) 6 h rfl (zq_o_54 _) (by decide +kernel), ?_⟩
  replace h := zq_nx2 (q := 18) h rfl
  refine ⟨zq_k_n 3 h rfl (zq_o_3 _), ?_⟩
  replace h := zq_nx1 (q := 19) h rfl
  refine ⟨zq_k_u1 54 (fun z => .istore z) 7 h rfl (zq_o_54 _) (by decide +kernel), ?_⟩
  replace h := zq_nx2 (q := 21) h rfl
  refine ⟨zq_k_u1 21 (fun z => .iload z) 7 h rfl (zq_o_21 _) (by decide +kernel), ?_⟩
  replace h := zq_nx2 (q := 23) h rfl
  refine ⟨zq_k_n 6 h rfl (zq_o_6 _), ?_⟩
  replace h := zq_nx1 (q := 24) h rfl
  refine ⟨zq_k_s2 163 (fun z => .if_icmp .gt z) 103 h rfl (zq_o_163 _) (by decide +kernel), ?_⟩
  replace h := zq_nx3 (q := 27) h rfl
  refine ⟨zq_k_n 3 h rfl (zq_o_3 _), ?_⟩
  replace h := zq_nx1 (q := 28) h rfl
  refine ⟨zq_k_u1 54 (fun z => .istore z) 8 h rfl (zq_o_54 _) (by decide +kernel), ?_⟩
  replace h := zq_nx2 (q := 30) h rfl
  refine ⟨zq_k_u1 21 (fun z => .iload z) 8 h rfl (zq_o_21 _) (by decide +kernel), ?_⟩
  replace h := zq_nx2 (q := 32) h rfl
  refine ⟨zq_k_n 6 h rfl (zq_o_6 _), ?_⟩
  replace h := zq_nx1 (q := 33) h rfl
  refine ⟨zq_k_s2 163 (fun z => .if_icmp .gt z) 88 h rfl (zq_o_163 _) (by decide +kernel), ?_⟩
  replace h := zq_nx3 (q := 36) h rfl
  refine ⟨zq_k_n 42 h rfl (zq_o_42 _), ?_⟩
  replace h := zq_nx1 (q := 37) h rfl
  refine ⟨zq_k_u2 180 (fun z => .getfield z) 56 h rfl (zq_o_180 _) (by decide +kernel), ?_⟩
  replace h := zq_nx3 (q := 40) h rfl
  exact zq_k_n 27 h rfl (zq_o_27 _)
theorem d_M_sharesOf_0 : decode prog_10_method_59_code 0 = .ok (.aload_n 0, 1) := dd_M_sharesOf_0.1
theorem d_M_sharesOf_1 : decode prog_10_method_59_code 1 = .ok (.getfield 53, 3) := dd_M_sharesOf_0.2.1
theorem d_M_sharesOf_4 : decode prog_10_method_59_code 4 = .ok (.iload_n 1, 1) := dd_M_sharesOf_0.2.2.1
theorem d_M_sharesOf_5 : decode prog_10_method_59_code 5 = .ok (.iload_n 2, 1) := dd_M_sharesOf_0.2.2.2.1
theorem d_M_sharesOf_6 : decode prog_10_method_59_code 6 = .ok (.iload_n 3, 1) := dd_M_sharesOf_0.2.2.2.2.1
theorem d_M_sharesOf_7 : decode prog_10_method_59_code 7 = .ok (.iload 4, 2) := dd_M_sharesOf_0.2.2.2.2.2.1
theorem d_M_sharesOf_9 : decode prog_10_method_59_code 9 = .ok (.invokestatic 247, 3) := dd_M_sharesOf_0.2.2.2.2.2.2.1
theorem d_M_sharesOf_12 : decode prog_10_method_59_code 12 = .ok (.iaload, 1) := dd_M_sharesOf_0.2.2.2.2.2.2.2.1
theorem d_M_sharesOf_13 : decode prog_10_method_59_code 13 = .ok (.istore 5, 2) := dd_M_sharesOf_0.2.2.2.2.2.2.2.2.1
theorem d_M_sharesOf_15 : decode prog_10_method_59_code 15 = .ok (.iconst 0, 1) := dd_M_sharesOf_0.2.2.2.2.2.2.2.2.2.1
theorem d_M_sharesOf_16 : decode prog_10_method_59_code 16 = .ok (.istore 6, 2) := dd_M_sharesOf_0.2.2.2.2.2.2.2.2.2.2.1
theorem d_M_sharesOf_18 : decode prog_10_method_59_code 18 = .ok (.iconst 0, 1) := dd_M_sharesOf_0.2.2.2.2.2.2.2.2.2.2.2.1
theorem d_M_sharesOf_19 : decode prog_10_method_59_code 19 = .ok (.istore 7, 2) := dd_M_sharesOf_0.2.2.2.2.2.2.2.2.2.2.2.2.1
theorem d_M_sharesOf_21 : decode prog_10_method_59_code 21 = .ok (.iload 7, 2) := dd_M_sharesOf_0.2.2.2.2.2.2.2.2.2.2.2.2.2.1
theorem d_M_sharesOf_23 : decode prog_10_method_59_code 23 = .ok (.iconst 3, 1) := dd_M_sharesOf_0.2.2.2.2.2.2.2.2.2.2.2.2.2.2.1
theorem d_M_sharesOf_24 : decode prog_10_method_59_code 24 = .ok (.if_icmp .gt 103, 3) := dd_M_sharesOf_0.2.2.2.2.2.2.2.2.2.2.2.2.2.2.2.1
theorem d_M_sharesOf_27 : decode prog_10_method_59_code 27 = .ok (.iconst 0, 1) := dd_M_sharesOf_0.2.2.2.2.2.2.2.2.2.2.2.2.2.2.2.2.1
theorem d_M_sharesOf_28 : decode prog_10_method_59_code 28 = .ok (.istore 8, 2) := dd_M_sharesOf_0.2.2.2.2.2.2.2.2.2.2.2.2.2.2.2.2.2.1
theorem d_M_sharesOf_30 : decode prog_10_method_59_code 30 = .ok (.iload 8, 2) := dd_M_sharesOf_0.2.2.2.2.2.2.2.2.2.2.2.2.2.2.2.2.2.2.1
theorem d_M_sharesOf_32 : decode prog_10_method_59_code 32 = .ok (.iconst 3, 1) := dd_M_sharesOf_0.2.2.2.2.2.2.2.2.2.2.2.2.2.2.2.2.2.2.2.1
theorem d_M_sharesOf_33 : decode prog_10_method_59_code 33 = .ok (.if_icmp .gt 88, 3) := dd_M_sharesOf_0.2.2.2.2.2.2.2.2.2.2.2.2.2.2.2.2.2.2.2.2.1
theorem d_M_sharesOf_36 : decode prog_10_method_59_code 36 = .ok (.aload_n 0, 1) := dd_M_sharesOf_0.2.2.2.2.2.2.2.2.2.2.2.2.2.2.2.2.2.2.2.2.2.1
theorem d_M_sharesOf_37 : decode prog_10_method_59_code 37 = .ok (.getfield 56, 3) := dd_M_sharesOf_0.2.2.2.2.2.2.2.2.2.2.2.2.2.2.2.2.2.2.2.2.2.2.1
theorem d_M_sharesOf_40 : decode prog_10_method_59_code 40 = .ok (.iload_n 1, 1) := dd_M_sharesOf_0.2.2.2.2.2.2.2.2.2.2.2.2.2.2.2.2.2.2.2.2.2.2.2
set_option maxRecDepth 100000 in
theorem dd_M_sharesOf_41 : (decode prog_10_method_59_code 41 = .ok (.iaload, 1)) ∧ (decode prog_10_method_59_code 42 = .ok (.iload 7, 2)) ∧ (decode prog_10_method_59_code 44 = .ok (.isub, 1)) ∧ (decode prog_10_method_59_code 45 = .ok (.iload 8, 2)) ∧ (decode prog_10_method_59_code 47 = .ok (.isub, 1)) ∧ (decode prog_10_method_59_code 48 = .ok (.istore 9, 2)) ∧ (decode prog_10_method_59_code 50 = .ok (.iload 6, 2)) ∧ (decode prog_10_method_59_code 52 = .ok (.ifCond .ne 63, 3)) ∧ (decode prog_10_method_59_code 55 = .ok (.iload 9, 2)) ∧ (decode prog_10_method_59_code 57 = .ok (.i2l, 1)) ∧ (decode prog_10_method_59_code 58 = .ok (.lconst 0, 1)) ∧ (decode prog_10_method_59_code 59 = .ok (.ldc2_w 251, 3)) ∧ (decode prog_10_method_59_code 62 = .ok (.invokestatic 114, 3)) ∧ (decode prog_10_method_59_code 65 = .ok (.ifCond .eq 50, 3)) ∧ (decode prog_10_method_59_code 68 = .ok (.aload_n 0, 1)) ∧ (decode prog_10_method_59_code 69 = .ok (.iload_n 1, 1)) ∧ (decode prog_10_method_59_code 70 = .ok (.iload_n 2, 1)) ∧ (decode prog_10_method_59_code 71 = .ok (.iload_n 3, 1)) ∧ (decode prog_10_method_59_code 72 = .ok (.iload 4, 2)) ∧ (decode prog_10_method_59_code 74 = .ok (.iload 7, 2)) ∧ (decode prog_10_method_59_code 76 = .ok (.iload 8, 2)) ∧ (decode prog_10_method_59_code 78 = .ok (.iload 9, 2)) ∧ (decode prog_10_method_59_code 80 = .ok (.invokevirtual 253, 3)) ∧ (decode prog_10_method_59_code 83 = .ok (.iload 5, 2)) := by
  have h : List.drop 41 prog_10_method_59_code.data.toList = 0x2e :: _ := rfl
  refine ⟨zq_k_n 46 h rfl (zq_o_46 _), ?_⟩
  replace h := zq_nx1 (q := 42) h rfl
  refine ⟨zq_k_u1 21 (fun z => .iload z) 7 h rfl (zq_o_21 _) (by decide +kernel), ?_⟩
  replace h := zq_nx2 (q := 44) h rfl
  refine ⟨zq_k_n 100 h rfl (zq_o_100 _), ?_⟩
  replace h := zq_nx1 (q := 45) h rfl
  refine ⟨zq_k_u1 21 (fun z => .iload z) 8 h rfl (zq_o_21 _) (by decide +kernel), ?_⟩
  replace h := zq_nx2 (q := 47) h rfl
  refine ⟨zq_k_n 100 h rfl (zq_o_100 _), ?_⟩
  replace h := zq_nx1 (q := 48) h rfl
  refine ⟨zq_k_u1 54 (fun z => .istore z) 9 h rfl (zq_o_54 _) (by decide +kernel), ?_⟩
  replace h := zq_nx2 (q := 50) h rfl
  refine ⟨zq_k_u1 21 (fun z => .iload z) 6 h rfl (zq_o_21 _) (by decide +kernel), ?_⟩
  replace h := zq_nx2 (q := 52) h rfl
  refine ⟨zq_k_s2 154 (fun z => .ifCond .ne z) 63 h rfl (zq_o_154 _) (by decide +kernel), ?_⟩
  replace h := zq_nx3 (q := 55) h rfl
  refine ⟨zq_k_u1 21 (fun z => .iload z) 9 h rfl (zq_o_21 _) (by decide +kernel), ?_⟩
  replace h := zq_nx2 (q := 57) h rfl
  refine ⟨zq_k_n 133 h rfl (zq_o_133 _), ?_⟩
  replace h := zq_nx1 (q := 58) h rfl
  refine ⟨zq_k_n 9 h rfl (zq_o_9 _), ?_⟩
  replace h := zq_nx1 (q := 59) h rfl
  refine ⟨zq_k_u2 20 (fun z => .ldc2_w z) 251 h rfl (zq_o_20 _) (by decide +kernel), ?_⟩
  replace h := zq_nx3 (q := 62) h rfl
  refine ⟨zq_k_u2 184 (fun z => .invokestatic z) 114 h rfl (zq_o_184 _) (by decide +kernel), ?_⟩
  replace h := zq_nx3 (q := 65) h rfl
  refine ⟨zq_k_s2 153 (fun z => .ifCond .eq z) 50 h rfl (zq_o_153 _) (by decide +kernel), ?_⟩
  replace h := zq_nx3 (q := 68) h rfl
  refine ⟨zq_k_n 42 h rfl (zq_o_42 _), ?_⟩
  replace h := zq_nx1 (q := 69) h rfl
  refine ⟨zq_k_n 27 h rfl (zq_o_27 _), ?_⟩
  replace h := zq_nx1 (q := 70) h rfl
  refine ⟨zq_k_n 28 h rfl (zq_o_28 _), ?_⟩
  replace h := zq_nx1 (q := 71) h rfl
  refine ⟨zq_k_n 29 h rfl (zq_o_29 _), ?_⟩
  replace h := zq_nx1 (q := 72) h rfl
  refine ⟨zq_k_u1 21 (fun z => .iload z) 4 h rfl (zq_o_21 _) (by decide +kernel), ?_⟩
  replace h := zq_nx2 (q := 74) h rfl
  refine ⟨zq_k_u1 21 (fun z => .iload z) 7 h rfl (zq_o_21 _) (by decide +kernel), ?_⟩
  replace h := zq_nx2 (q := 76) h rfl
  refine ⟨zq_k_u1 21 (fun z => .iload z) 8 h rfl (zq_o_21 _) (by decide +kernel), ?_⟩
  replace h := zq_nx2 (q := 78) h rfl
  refine ⟨zq_k_u1 21 (fun z => .iload z) 9 h rfl (zq_o_21 _) (by decide +kernel), ?_⟩
  replace h := zq_nx2 (q := 80) h rfl
  refine ⟨zq_k_u2 182 (fun z => .invokevirtual z) 253 h rfl (zq_o_182 _) (by decide +kernel), ?_⟩
  replace h := zq_nx3 (q := 83) h rfl
  exact zq_k_u1 21 (fun z => .iload z) 5 h rfl (zq_o_21 _) (by decide +kernel)
theorem d_M_sharesOf_41 : decode prog_10_method_59_code 41 = .ok (.iaload, 1) := dd_M_sharesOf_41.1
theorem d_M_sharesOf_42 : decode prog_10_method_59_code 42 = .ok (.iload 7, 2) := dd_M_sharesOf_41.2.1
theorem d_M_sharesOf_44 : decode prog_10_method_59_code 44 = .ok (.isub, 1) := dd_M_sharesOf_41.2.2.1
theorem d_M_sharesOf_45 : decode prog_10_method_59_code 45 = .ok (.iload 8, 2) := dd_M_sharesOf_41.2.2.2.1
theorem d_M_sharesOf_47 : decode prog_10_method_59_code 47 = .ok (.isub, 1) := dd_M_sharesOf_41.2.2.2.2.1
theorem d_M_sharesOf_48 : decode prog_10_method_59_code 48 = .ok (.istore 9, 2) := dd_M_sharesOf_41.2.2.2.2.2.1
theorem d_M_sharesOf_50 : decode prog_10_method_59_code 50 = .ok (.iload 6, 2) := dd_M_sharesOf_41.2.2.2.2.2.2.1
theorem d_M_sharesOf_52 : decode prog_10_method_59_code 52 = .ok (.ifCond .ne 63, 3) := dd_M_sharesOf_41.2.2.2.2.2.2.2.1
theorem d_M_sharesOf_55 : decode prog_10_method_59_code 55 = .ok (.iload 9, 2) := dd_M_sharesOf_41.2.2.2.2.2.2.2.2.1
theorem d_M_sharesOf_57 : decode prog_10_method_59_code 57 = .ok (.i2l, 1) := dd_M_sharesOf_41.2.2.2.2.2.2.2.2.2.1
theorem d_M_sharesOf_58 : decode prog_10_method_59_code 58 = .ok (.lconst 0, 1) := dd_M_sharesOf_41.2.2.2.2.2.2.2.2.2.2.1
theorem d_M_sharesOf_59 : decode prog_10_method_59_code 59 = .ok (.ldc2_w 251, 3) := dd_M_sharesOf_41.2.2.2.2.2.2.2.2.2.2.2.1
theorem d_M_sharesOf_62 : decode prog_10_method_59_code 62 = .ok (.invokestatic 114, 3) := dd_M_sharesOf_41.2.2.2.2.2.2.2.2.2.2.2.2.1
theorem d_M_sharesOf_65 : decode prog_10_method_59_code 65 = .ok (.ifCond .eq 50, 3) := dd_M_sharesOf_41.2.2.2.2.2.2.2.2.2.2.2.2.2.1
theorem d_M_sharesOf_68 : decode prog_10_method_59_code 68 = .ok (.aload_n 0, 1) := dd_M_sharesOf_41.2.2.2.2.2.2.2.2.2.2.2.2.2.2.1
theorem d_M_sharesOf_69 : decode prog_10_method_59_code 69 = .ok (.iload_n 1, 1) := dd_M_sharesOf_41.2.2.2.2.2.2.2.2.2.2.2.2.2.2.2.1
theorem d_M_sharesOf_70 : decode prog_10_method_59_code 70 = .ok (.iload_n 2, 1) := dd_M_sharesOf_41.2.2.2.2.2.2.2.2.2.2.2.2.2.2.2.2.1
theorem d_M_sharesOf_71 : decode prog_10_method_59_code 71 = .ok (.iload_n 3, 1) := dd_M_sharesOf_41.2.2.2.2.2.2.2.2.2.2.2.2.2.2.2.2.2.1
theorem d_M_sharesOf_72 : decode prog_10_method_59_code 72 = .ok (.iload 4, 2) := dd_M_sharesOf_41.2.2.2.2.2.2.2.2.2.2.2.2.2.2.2.2.2.2.1
theorem d_M_sharesOf_74 : decode prog_10_method_59_code 74 = .ok (.iload 7, 2) := dd_M_sharesOf_41.2.2.2.2.2.2.2.2.2.2.2.2.2.2.2.2.2.2.2.1
theorem d_M_sharesOf_76 : decode prog_10_method_59_code 76 = .ok (.iload 8, 2) := dd_M_sharesOf_41.2.2.2.2.2.2.2.2.2.2.2.2.2.2.2.2.2.2.2.2.1
theorem d_M_sharesOf_78 : decode prog_10_method_59_code 78 = .ok (.iload 9, 2) := dd_M_sharesOf_41.2.2.2.2.2.2.2.2.2.2.2.2.2.2.2.2.2.2.2.2.2.1
theorem d_M_sharesOf_80 : decode prog_10_method_59_code 80 = .ok (.invokevirtual 253, 3) := dd_M_sharesOf_41.2.2.2.2.2.2.2.2.2.2.2.2.2.2.2.2.2.2.2.2.2.2.1
theorem d_M_sharesOf_83 : decode prog_10_method_59_code 83 = .ok (.iload 5, 2) := dd_M_sharesOf_41.2.2.2.2.2.2.2.2.2.2.2.2.2.2.2.2.2.2.2.2.2.2.2
set_option maxRecDepth 100000 in
theorem dd_M_sharesOf_85 : (decode prog_10_method_59_code 85 = .ok (.if_icmp .ne 30, 3)) ∧ (decode prog_10_method_59_code 88 = .ok (.aload_n 0, 1)) ∧ (decode prog_10_method_59_code 89 = .ok (.getfield 62, 3)) ∧ (decode prog_10_method_59_code 92 = .ok (.iconst 0, 1)) ∧ (decode prog_10_method_59_code 93 = .ok (.iload 7, 2)) ∧ (decode prog_10_method_59_code 95 = .ok (.iastore, 1)) ∧ (decode prog_10_method_59_code 96 = .ok (.aload_n 0, 1)) ∧ (decode prog_10_method_59_code 97 = .ok (.getfield 62, 3)) ∧ (decode prog_10_method_59_code 100 = .ok (.iconst 1, 1)) ∧ (decode prog_10_method_59_code 101 = .ok (.iload 8, 2)) ∧ (decode prog_10_method_59_code 103 = .ok (.iastore, 1)) ∧ (decode prog_10_method_59_code 104 = .ok (.aload_n 0, 1)) ∧ (decode prog_10_method_59_code 105 = .ok (.getfield 62, 3)) ∧ (decode prog_10_method_59_code 108 = .ok (.iconst 2, 1)) ∧ (decode prog_10_method_59_code 109 = .ok (.iload 9, 2)) ∧ (decode prog_10_method_59_code 111 = .ok (.iastore, 1)) ∧ (decode prog_10_method_59_code 112 = .ok (.iconst 1, 1)) ∧ (decode prog_10_method_59_code 113 = .ok (.istore 6, 2)) ∧ (decode prog_10_method_59_code 115 = .ok (.iinc 8 1, 3)) ∧ (decode prog_10_method_59_code 118 = .ok (.goto (-88), 3)) ∧ (decode prog_10_method_59_code 121 = .ok (.iinc 7 1, 3)) ∧ (decode prog_10_method_59_code 124 = .ok (.goto (-103), 3)) ∧ (decode prog_10_method_59_code 127 = .ok (.return_, 1)) := by
  have h : List.drop 85 prog_10_method_59_code.data.toList = 0xa0 :: _ := rfl
  refine ⟨zq_k_s2 160 (fun z => .if_icmp .ne z) 30 h rfl (zq_o_160 _) (by decide +kernel), ?_⟩
  replace h := zq_nx3 (q := 88) h rfl
  refine ⟨zq_k_n 42 h rfl (zq_o_42 _), ?_⟩
  replace h := zq_nx1 (q := 89) h rfl
  refine ⟨zq_k_u2 180 (fun z => .getfield z) 62 h rfl (zq_o_180 _) (by decide +kernel), ?_⟩
  replace h := zq_nx3 (q := 92) h rfl
  refine ⟨zq_k_n 3 h rfl (zq_o_3 _), ?_⟩
  replace h := zq_nx1 (q := 93) h rfl
  refine ⟨zq_k_u1 21 (fun z => .iload z) 7 h rfl (zq_o_21 _) (by decide +kernel), ?_⟩
  replace h := zq_nx2 (q := 95) h rfl
  refine ⟨zq_k_n 79 h rfl (zq_o_79 _), ?_⟩
  replace h := zq_nx1 (q := 96) h rfl
  refine ⟨zq_k_n 42 h rfl (zq_o_42 _), ?_⟩
  replace h := zq_nx1 (q := 97) h rfl
  refine ⟨zq_k_u2 180 (fun z => .getfield z) 62 h rfl (zq_o_180 _) (by decide +kernel), ?_⟩
  replace h := zq_nx3 (q := 100) h rfl
  refine ⟨zq_k_n 4 h rfl (zq_o_4 _), ?_⟩
  replace h := zq_nx1 (q := 101) h rfl
  refine ⟨zq_k_u1 21 (fun z => .iload z) 8 h rfl (zq_o_21 _) (by decide +kernel), ?_⟩
  replace h := zq_nx2 (q := 103) h rfl
  refine ⟨zq_k_n 79 h rfl (zq_o_79 _), ?_⟩
  replace h := zq_nx1 (q := 104) h rfl
  refine ⟨zq_k_n 42 h rfl (zq_o_42 _), ?_⟩
  replace h := zq_nx1 (q := 105) h rfl
  refine ⟨zq_k_u2 180 (fun z => .getfield z) 62 h rfl (zq_o_180 _) (by decide +kernel), ?_⟩
  replace h := zq_nx3 (q := 108) h rfl
  refine ⟨zq_k_n 5 h rfl (zq_o_5 _), ?_⟩
  replace h := zq_nx1 (q := 109) h rfl
  refine ⟨zq_k_u1 21 (fun z => .iload z) 9 h rfl (zq_o_21 _) (by decide +kernel), ?_⟩
  replace h := zq_nx2 (q := 111) h rfl
  refine ⟨zq_k_n 79 h rfl (zq_o_79 _), ?_⟩
  replace h := zq_nx1 (q := 112) h rfl
  refine ⟨zq_k_n 4 h rfl (zq_o_4 _), ?_⟩
  replace h := zq_nx1 (q := 113) h rfl
  refine ⟨zq_k_u1 54 (fun z => .istore z) 6 h rfl (zq_o_54 _) (by decide +kernel), ?_⟩
  replace h := zq_nx2 (q := 115) h rfl
  refine ⟨zq_k_iinc 8 1 h rfl (zq_o_132 _) (by decide +kernel) (by decide +kernel), ?_⟩
  replace h := zq_nx3 (q := 118) h rfl
  refine ⟨zq_k_s2 167 (fun z => .goto z) (-88) h rfl (zq_o_167 _) (by decide +kernel), ?_⟩
  replace h := zq_nx3 (q := 121) h rfl
  refine ⟨zq_k_iinc 7 1 h rfl (zq_o_132 _) (by decide +kernel) (by decide +kernel), ?_⟩
  replace h := zq_nx3 (q := 124) h rfl
  refine ⟨zq_k_s2 167 (fun z => .goto z) (-103) h rfl (zq_o_167 _) (by decide +kernel), ?_⟩
  replace h := zq_nx3 (q := 127) h rfl
  exact zq_k_n 177 h rfl (zq_o_177 _)
theorem d_M_sharesOf_85 : decode prog_10_method_59_code 85 = .ok (.if_icmp .ne 30, 3) := dd_M_sharesOf_85.1
theorem d_M_sharesOf_88 : decode prog_10_method_59_code 88 = .ok (.aload_n 0, 1) := dd_M_sharesOf_85.2.1
theorem d_M_sharesOf_89 : decode prog_10_method_59_code 89 = .ok (.getfield 62, 3) := dd_M_sharesOf_85.2.2.1
theorem d_M_sharesOf_92 : decode prog_10_method_59_code 92 = .ok (.iconst 0, 1) := dd_M_sharesOf_85.2.2.2.1
theorem d_M_sharesOf_93 : decode prog_10_method_59_code 93 = .ok (.iload 7, 2) := dd_M_sharesOf_85.2.2.2.2.1
theorem d_M_sharesOf_95 : decode prog_10_method_59_code 95 = .ok (.iastore, 1) := dd_M_sharesOf_85.2.2.2.2.2.1
theorem d_M_sharesOf_96 : decode prog_10_method_59_code 96 = .ok (.aload_n 0, 1) := dd_M_sharesOf_85.2.2.2.2.2.2.1
theorem d_M_sharesOf_97 : decode prog_10_method_59_code 97 = .ok (.getfield 62, 3) := dd_M_sharesOf_85.2.2.2.2.2.2.2.1
theorem d_M_sharesOf_100 : decode prog_10_method_59_code 100 = .ok (.iconst 1, 1) := dd_M_sharesOf_85.2.2.2.2.2.2.2.2.1
theorem d_M_sharesOf_101 : decode prog_10_method_59_code 101 = .ok (.iload 8, 2) := dd_M_sharesOf_85.2.2.2.2.2.2.2.2.2.1
theorem d_M_sharesOf_103 : decode prog_10_method_59_code 103 = .ok (.iastore, 1) := dd_M_sharesOf_85.2.2.2.2.2.2.2.2.2.2.1
theorem d_M_sharesOf_104 : decode prog_10_method_59_code 104 = .ok (.aload_n 0, 1) := dd_M_sharesOf_85.2.2.2.2.2.2.2.2.2.2.2.1
theorem d_M_sharesOf_105 : decode prog_10_method_59_code 105 = .ok (.getfield 62, 3) := dd_M_sharesOf_85.2.2.2.2.2.2.2.2.2.2.2.2.1
theorem d_M_sharesOf_108 : decode prog_10_method_59_code 108 = .ok (.iconst 2, 1) := dd_M_sharesOf_85.2.2.2.2.2.2.2.2.2.2.2.2.2.1
theorem d_M_sharesOf_109 : decode prog_10_method_59_code 109 = .ok (.iload 9, 2) := dd_M_sharesOf_85.2.2.2.2.2.2.2.2.2.2.2.2.2.2.1
theorem d_M_sharesOf_111 : decode prog_10_method_59_code 111 = .ok (.iastore, 1) := dd_M_sharesOf_85.2.2.2.2.2.2.2.2.2.2.2.2.2.2.2.1
theorem d_M_sharesOf_112 : decode prog_10_method_59_code 112 = .ok (.iconst 1, 1) := dd_M_sharesOf_85.2.2.2.2.2.2.2.2.2.2.2.2.2.2.2.2.1
theorem d_M_sharesOf_113 : decode prog_10_method_59_code 113 = .ok (.istore 6, 2) := dd_M_sharesOf_85.2.2.2.2.2.2.2.2.2.2.2.2.2.2.2.2.2.1
theorem d_M_sharesOf_115 : decode prog_10_method_59_code 115 = .ok (.iinc 8 1, 3) := dd_M_sharesOf_85.2.2.2.2.2.2.2.2.2.2.2.2.2.2.2.2.2.2.1
theorem d_M_sharesOf_118 : decode prog_10_method_59_code 118 = .ok (.goto (-88), 3) := dd_M_sharesOf_85.2.2.2.2.2.2.2.2.2.2.2.2.2.2.2.2.2.2.2.1
theorem d_M_sharesOf_121 : decode prog_10_method_59_code 121 = .ok (.iinc 7 1, 3) := dd_M_sharesOf_85.2.2.2.2.2.2.2.2.2.2.2.2.2.2.2.2.2.2.2.2.1
theorem d_M_sharesOf_124 : decode prog_10_method_59_code 124 = .ok (.goto (-103), 3) := dd_M_sharesOf_85.2.2.2.2.2.2.2.2.2.2.2.2.2.2.2.2.2.2.2.2.2.1
theorem d_M_sharesOf_127 : decode prog_10_method_59_code 127 = .ok (.return_, 1) := dd_M_sharesOf_85.2.2.2.2.2.2.2.2.2.2.2.2.2.2.2.2.2.2.2.2.2.2
def f_M_sharesOf_115 (rec21 : Nat → Int32 → Int32 → Int32 → Int32 → Int32 → Int32 → Int32 → mH → Option mH) (rec30 : Nat → Int32 → Int32 → Int32 → Int32 → Int32 → Int32 → Int32 → Int32 → mH → Option mH) (b0 : Nat) (b1 : Int32) (b2 : Int32) (b3 : Int32) (b4 : Int32) (b5 : Int32) (b6 : Int32) (b7 : Int32) (b8 : Int32) (h : mH) : Option mH :=
  rec30 b0 b1 b2 b3 b4 b5 b6 b7 (b8 + (1 : Int32)) h
set_option maxRecDepth 20000 in
theorem t_M_sharesOf_115 {sc : Nat × (Nat → Int32)} (rec21 : Nat → Int32 → Int32 → Int32 → Int32 → Int32 → Int32 → Int32 → mH → Option mH) (hrec21 : ∀ (b0 : Nat) (b1 : Int32) (b2 : Int32) (b3 : Int32) (b4 : Int32) (b5 : Int32) (b6 : Int32) (b7 : Int32) (h : mH) (h' : mH), rec21 b0 b1 b2 b3 b4 b5 b6 b7 h = some h' → G sc y_M_sharesOf prog_10_method_59_code 10 none 4 97 21 [(0, .ref b0), (1, .int b1), (2, .int b2), (3, .int b3), (4, .int b4), (5, .int b5), (6, .int b6), (7, .int b7)] [] h none h') (rec30 : Nat → Int32 → Int32 → Int32 → Int32 → Int32 → Int32 → Int32 → Int32 → mH → Option mH) (hrec30 : ∀ (b0 : Nat) (b1 : Int32) (b2 : Int32) (b3 : Int32) (b4 : Int32) (b5 : Int32) (b6 : Int32) (b7 : Int32) (b8 : Int32) (h : mH) (h' : mH), rec30 b0 b1 b2 b3 b4 b5 b6 b7 b8 h = some h' → G sc y_M_sharesOf prog_10_method_59_code 10 none 4 97 30 [(0, .ref b0), (1, .int b1), (2, .int b2), (3, .int b3), (4, .int b4), (5, .int b5), (6, .int b6), (7, .int b7), (8, .int b8)] [] h none h') (b0 : Nat) (b1 : Int32) (b2 : Int32) (b3 : Int32) (b4 : Int32) (b5 : Int32) (b6 : Int32) (b7 : Int32) (b8 : Int32) (h : mH) (h' : mH) (hf : f_M_sharesOf_115 rec21 rec30 b0 b1 b2 b3 b4 b5 b6 b7 b8 h = some h') : G sc y_M_sharesOf prog_10_method_59_code 10 none 4 97 115 [(0, .ref b0), (1, .int b1), (2, .int b2), (3, .int b3), (4, .int b4), (5, .int b5), (6, .int b6), (7, .int b7), (8, .int b8)] [] h none h' := by
  unfold f_M_sharesOf_115 at hf
  refine g_iinc (pc := 115) 8 (b8 + (1 : Int32)) [(8, .int (b8 + (1 : Int32))), (0, .ref b0), (1, .int b1), (2, .int b2), (3, .int b3), (4, .int b4), (5, .int b5), (6, .int b6), (7, .int b7)] d_M_sharesOf_115 rfl rfl (Nat.le_of_ble_eq_true rfl) rfl ?_
  refine g_goto (pc := 118) 30 d_M_sharesOf_118 (by decide) ?_
  refine g_lv [1, 2, 3, 4, 5, 6, 7, 8, 0] rfl ?_
  exact hrec30 _ _ _ _ _ _ _ _ _ _ _  hf
def f_M_sharesOf_30b (rec21 : Nat → Int32 → Int32 → Int32 → Int32 → Int32 → Int32 → Int32 → mH → Option mH) (rec30 : Nat → Int32 → Int32 → Int32 → Int32 → Int32 → Int32 → Int32 → Int32 → mH → Option mH) (b0 : Nat) (b1 : Int32) (b2 : Int32) (b3 : Int32) (b4 : Int32) (b5 : Int32) (b6 : Int32) (b7 : Int32) (b8 : Int32) (h : mH) : Option mH :=
  if (3 : Int32) < b8 then
    rec21 b0 b1 b2 b3 b4 b5 b6 (b7 + (1 : Int32)) h
  else
    bd1 (gR h b0 8 28) fun x9 =>
    bd1 (aI h 0 x9 b1) fun x11 =>
    if b6 = 0 then
      bd2 (f_M_in (((x11 - b7) - b8).toInt64) (0 : Int64) (3 : Int64) h) fun x15 h13 =>
      if x15 = 0 then
        f_M_sharesOf_115 rec21 rec30 b0 b1 b2 b3 b4 b5 b6 b7 b8 h13
      else
        bd1 (kC h13 b0 8) fun _ =>
        bd2 (f_M_harmBy b0 b1 b2 b3 b4 b7 b8 ((x11 - b7) - b8) h13) fun x20 h18 =>
        if x20 = b5 then
          bd1 (gR h18 b0 8 30) fun x21 =>
          bd1 (sI h18 0 x21 (0 : Int32) b7) fun h23 =>
          bd1 (gR h23 b0 8 30) fun x25 =>
          bd1 (sI h23 0 x25 (1 : Int32) b8) fun h27 =>
          bd1 (gR h27 b0 8 30) fun x29 =>
          bd1 (sI h27 0 x29 (2 : Int32) ((x11 - b7) - b8)) fun h31 =>
          f_M_sharesOf_115 rec21 rec30 b0 b1 b2 b3 b4 b5 (1 : Int32) b7 b8 h31
        else
          f_M_sharesOf_115 rec21 rec30 b0 b1 b2 b3 b4 b5 b6 b7 b8 h18
    else
      f_M_sharesOf_115 rec21 rec30 b0 b1 b2 b3 b4 b5 b6 b7 b8 h
set_option maxRecDepth 20000 in
theorem t_M_sharesOf_30b {sc : Nat × (Nat → Int32)} (rec21 : Nat → Int32 → Int32 → Int32 → Int32 → Int32 → Int32 → Int32 → mH → Option mH) (hrec21 : ∀ (b0 : Nat) (b1 : Int32) (b2 : Int32) (b3 : Int32) (b4 : Int32) (b5 : Int32) (b6 : Int32) (b7 : Int32) (h : mH) (h' : mH), rec21 b0 b1 b2 b3 b4 b5 b6 b7 h = some h' → G sc y_M_sharesOf prog_10_method_59_code 10 none 4 97 21 [(0, .ref b0), (1, .int b1), (2, .int b2), (3, .int b3), (4, .int b4), (5, .int b5), (6, .int b6), (7, .int b7)] [] h none h') (rec30 : Nat → Int32 → Int32 → Int32 → Int32 → Int32 → Int32 → Int32 → Int32 → mH → Option mH) (hrec30 : ∀ (b0 : Nat) (b1 : Int32) (b2 : Int32) (b3 : Int32) (b4 : Int32) (b5 : Int32) (b6 : Int32) (b7 : Int32) (b8 : Int32) (h : mH) (h' : mH), rec30 b0 b1 b2 b3 b4 b5 b6 b7 b8 h = some h' → G sc y_M_sharesOf prog_10_method_59_code 10 none 4 97 30 [(0, .ref b0), (1, .int b1), (2, .int b2), (3, .int b3), (4, .int b4), (5, .int b5), (6, .int b6), (7, .int b7), (8, .int b8)] [] h none h') (b0 : Nat) (b1 : Int32) (b2 : Int32) (b3 : Int32) (b4 : Int32) (b5 : Int32) (b6 : Int32) (b7 : Int32) (b8 : Int32) (h : mH) (h' : mH) (hf : f_M_sharesOf_30b rec21 rec30 b0 b1 b2 b3 b4 b5 b6 b7 b8 h = some h') : G sc y_M_sharesOf prog_10_method_59_code 10 none 4 97 30 [(0, .ref b0), (1, .int b1), (2, .int b2), (3, .int b3), (4, .int b4), (5, .int b5), (6, .int b6), (7, .int b7), (8, .int b8)] [] h none h' := by
  unfold f_M_sharesOf_30b at hf
  refine g_iload (pc := 30) 8 d_M_sharesOf_30 rfl ?_
  refine g_iconst (pc := 32) (3 : Int32) d_M_sharesOf_32 (by decide) ?_
  refine g_icmpgt (pc := 33) 121 d_M_sharesOf_33 (by decide) (fun c36 => ?_) (fun c36 => ?_)
  · replace hf := (if_pos c36).symm.trans hf
    refine g_iinc (pc := 121) 7 (b7 + (1 : Int32)) [(7, .int (b7 + (1 : Int32))), (0, .ref b0), (1, .int b1), (2, .int b2), (3, .int b3), (4, .int b4), (5, .int b5), (6, .int b6), (8, .int b8)] d_M_sharesOf_121 rfl rfl (Nat.le_of_ble_eq_true rfl) rfl ?_
    refine g_goto (pc := 124) 21 d_M_sharesOf_124 (by decide) ?_
    refine g_lv [1, 2, 3, 4, 5, 6, 7, 0] rfl ?_
    exact hrec21 _ _ _ _ _ _ _ _ _ _  hf
  · replace hf := (if_neg c36).symm.trans hf
    refine g_aload_n (pc := 36) 0 d_M_sharesOf_36 rfl rfl ?_
    obtain ⟨x9, e10, hf⟩ := bd1_e hf
    refine g_get (pc := 37) (ci := 8) (kk := 28) d_M_sharesOf_37 rfl in_M (by decide) wd_966 (gR_spec e10) ?_
    refine g_iload_n (pc := 40) 1 d_M_sharesOf_40 rfl rfl ?_
    obtain ⟨x11, e12, hf⟩ := bd1_e hf
    refine g_iald (pc := 41) d_M_sharesOf_41 e12 ?_
    refine g_iload (pc := 42) 7 d_M_sharesOf_42 rfl ?_
    refine g_isub (pc := 44) d_M_sharesOf_44 ?_
    refine g_iload (pc := 45) 8 d_M_sharesOf_45 rfl ?_
    refine g_isub (pc := 47) d_M_sharesOf_47 ?_
    refine g_istore (pc := 48) [(9, .int ((x11 - b7) - b8)), (0, .ref b0), (1, .int b1), (2, .int b2), (3, .int b3), (4, .int b4), (5, .int b5), (6, .int b6), (7, .int b7), (8, .int b8)] d_M_sharesOf_48 (Nat.le_of_ble_eq_true rfl) rfl ?_
    refine g_iload (pc := 50) 7 d_M_sharesOf_50 rfl ?_
    refine g_ifne (pc := 52) 115 d_M_sharesOf_52 (by decide) (fun c35 => ?_) (fun c35 => ?_)
    · replace hf := (if_neg c35).symm.trans hf
      refine g_lv [1, 2, 3, 4, 5, 6, 7, 8, 9] rfl ?_
      exact t_M_sharesOf_115 rec21 hrec21 rec30 hrec30 _ _ _ _ _ _ _ _ _ _ _  hf
    · replace hf := (if_pos c35).symm.trans hf
      refine g_iload (pc := 55) 0 d_M_sharesOf_55 rfl ?_
      refine g_i2l (pc := 57) d_M_sharesOf_57 ?_
      refine g_lconst (pc := 58) (0 : Int64) d_M_sharesOf_58 (by decide) ?_
      refine g_ldc2 (pc := 59) (3 : Int64) d_M_sharesOf_59 wd_1273 ?_
      obtain ⟨x15, h13, e14, hf⟩ := bd2_e hf
      refine g_callS (pc := 62) [.long (((x11 - b7) - b8).toInt64), .long (0 : Int64), .long (3 : Int64)] (site_of si_M_in (by decide) (by decide)) wd_1061 wd_1062 d_M_sharesOf_62 (Nat.le_of_ble_eq_true rfl) (fun z => absurd z (by decide)) (fun z => absurd z (by decide)) (fun z => absurd z (by decide)) (c_M_in e14) rfl ?_
      refine g_st [.int x15] rfl ?_
      refine g_ifeq (pc := 65) 115 d_M_sharesOf_65 (by decide) (fun c34 => ?_) (fun c34 => ?_)
      · replace hf := (if_pos c34).symm.trans hf
        refine g_lv [1, 2, 3, 4, 5, 6, 7, 8, 9] rfl ?_
        exact t_M_sharesOf_115 rec21 hrec21 rec30 hrec30 _ _ _ _ _ _ _ _ _ _ _  hf
      · replace hf := (if_neg c34).symm.trans hf
        refine g_aload_n (pc := 68) 1 d_M_sharesOf_68 rfl rfl ?_
        refine g_iload_n (pc := 69) 2 d_M_sharesOf_69 rfl rfl ?_
        refine g_iload_n (pc := 70) 3 d_M_sharesOf_70 rfl rfl ?_
        refine g_iload_n (pc := 71) 4 d_M_sharesOf_71 rfl rfl ?_
        refine g_iload (pc := 72) 5 d_M_sharesOf_72 rfl ?_
        refine g_iload (pc := 74) 8 d_M_sharesOf_74 rfl ?_
        refine g_iload (pc := 76) 9 d_M_sharesOf_76 rfl ?_
        refine g_iload (pc := 78) 0 d_M_sharesOf_78 rfl ?_
        obtain ⟨u17, e16, hf⟩ := bd1_e hf
        obtain ⟨x20, h18, e19, hf⟩ := bd2_e hf
        refine g_callV (pc := 80) (ci := 8) [.int b1, .int b2, .int b3, .int b4, .int b7, .int b8, .int ((x11 - b7) - b8)] (site_of si_M_harmBy (by decide) (by decide)) wd_1274 wd_1276 wp_60 d_M_sharesOf_80 rfl e16 (Nat.le_of_ble_eq_true rfl) (fun z => absurd z (by decide)) (fun z => absurd z (by decide)) (fun z => absurd z (by decide)) (c_M_harmBy e19) rfl ?_
        refine g_st [.int x20] rfl ?_
        refine g_iload (pc := 83) 6 d_M_sharesOf_83 rfl ?_
        refine g_icmpne (pc := 85) 115 d_M_sharesOf_85 (by decide) (fun c33 => ?_) (fun c33 => ?_)
        · replace hf := (if_neg c33).symm.trans hf
          refine g_lv [1, 2, 3, 4, 5, 6, 7, 8, 9] rfl ?_
          exact t_M_sharesOf_115 rec21 hrec21 rec30 hrec30 _ _ _ _ _ _ _ _ _ _ _  hf
        · replace hf := (if_pos c33).symm.trans hf
          refine g_aload_n (pc := 88) 1 d_M_sharesOf_88 rfl rfl ?_
          obtain ⟨x21, e22, hf⟩ := bd1_e hf
          refine g_get (pc := 89) (ci := 8) (kk := 30) d_M_sharesOf_89 rfl in_M (by decide) wd_968 (gR_spec e22) ?_
          refine g_iconst (pc := 92) (0 : Int32) d_M_sharesOf_92 (by decide) ?_
          refine g_iload (pc := 93) 8 d_M_sharesOf_93 rfl ?_
          obtain ⟨h23, e24, hf⟩ := bd1_e hf
          refine g_iast (pc := 95) d_M_sharesOf_95 e24 ?_
          refine g_aload_n (pc := 96) 1 d_M_sharesOf_96 rfl rfl ?_
          obtain ⟨x25, e26, hf⟩ := bd1_e hf
          refine g_get (pc := 97) (ci := 8) (kk := 30) d_M_sharesOf_97 rfl in_M (by decide) wd_968 (gR_spec e26) ?_
          refine g_iconst (pc := 100) (1 : Int32) d_M_sharesOf_100 (by decide) ?_
          refine g_iload (pc := 101) 9 d_M_sharesOf_101 rfl ?_
          obtain ⟨h27, e28, hf⟩ := bd1_e hf
          refine g_iast (pc := 103) d_M_sharesOf_103 e28 ?_
          refine g_aload_n (pc := 104) 1 d_M_sharesOf_104 rfl rfl ?_
          obtain ⟨x29, e30, hf⟩ := bd1_e hf
          refine g_get (pc := 105) (ci := 8) (kk := 30) d_M_sharesOf_105 rfl in_M (by decide) wd_968 (gR_spec e30) ?_
          refine g_iconst (pc := 108) (2 : Int32) d_M_sharesOf_108 (by decide) ?_
          refine g_iload (pc := 109) 0 d_M_sharesOf_109 rfl ?_
          obtain ⟨h31, e32, hf⟩ := bd1_e hf
          refine g_iast (pc := 111) d_M_sharesOf_111 e32 ?_
          refine g_iconst (pc := 112) (1 : Int32) d_M_sharesOf_112 (by decide) ?_
          refine g_istore (pc := 113) [(6, .int (1 : Int32)), (9, .int ((x11 - b7) - b8)), (0, .ref b0), (1, .int b1), (2, .int b2), (3, .int b3), (4, .int b4), (5, .int b5), (7, .int b7), (8, .int b8)] d_M_sharesOf_113 (Nat.le_of_ble_eq_true rfl) rfl ?_
          refine g_lv [2, 3, 4, 5, 6, 7, 0, 8, 9] rfl ?_
          exact t_M_sharesOf_115 rec21 hrec21 rec30 hrec30 _ _ _ _ _ _ _ _ _ _ _  hf
def f_M_sharesOf_30 (rec21 : Nat → Int32 → Int32 → Int32 → Int32 → Int32 → Int32 → Int32 → mH → Option mH) : Nat → Nat → Int32 → Int32 → Int32 → Int32 → Int32 → Int32 → Int32 → Int32 → mH → Option mH
  | 0 => fun _ _ _ _ _ _ _ _ _ _ => none
  | n + 1 => f_M_sharesOf_30b rec21 (f_M_sharesOf_30 rec21 n)
theorem t_M_sharesOf_30 {sc : Nat × (Nat → Int32)} (rec21 : Nat → Int32 → Int32 → Int32 → Int32 → Int32 → Int32 → Int32 → mH → Option mH) (hrec21 : ∀ (b0 : Nat) (b1 : Int32) (b2 : Int32) (b3 : Int32) (b4 : Int32) (b5 : Int32) (b6 : Int32) (b7 : Int32) (h : mH) (h' : mH), rec21 b0 b1 b2 b3 b4 b5 b6 b7 h = some h' → G sc y_M_sharesOf prog_10_method_59_code 10 none 4 97 21 [(0, .ref b0), (1, .int b1), (2, .int b2), (3, .int b3), (4, .int b4), (5, .int b5), (6, .int b6), (7, .int b7)] [] h none h') : ∀ (n : Nat) (b0 : Nat) (b1 : Int32) (b2 : Int32) (b3 : Int32) (b4 : Int32) (b5 : Int32) (b6 : Int32) (b7 : Int32) (b8 : Int32) (h : mH) (h' : mH) (hf : f_M_sharesOf_30 rec21 n b0 b1 b2 b3 b4 b5 b6 b7 b8 h = some h'), G sc y_M_sharesOf prog_10_method_59_code 10 none 4 97 30 [(0, .ref b0), (1, .int b1), (2, .int b2), (3, .int b3), (4, .int b4), (5, .int b5), (6, .int b6), (7, .int b7), (8, .int b8)] [] h none h'
  | 0, _, _, _, _, _, _, _, _, _, _, _, hf => by cases hf
  | n + 1, _, _, _, _, _, _, _, _, _, _, _, hf => t_M_sharesOf_30b rec21 hrec21 (f_M_sharesOf_30 rec21 n) (t_M_sharesOf_30 rec21 hrec21 n) _ _ _ _ _ _ _ _ _ _ _ hf
def f_M_sharesOf_21b (rec21 : Nat → Int32 → Int32 → Int32 → Int32 → Int32 → Int32 → Int32 → mH → Option mH) (b0 : Nat) (b1 : Int32) (b2 : Int32) (b3 : Int32) (b4 : Int32) (b5 : Int32) (b6 : Int32) (b7 : Int32) (h : mH) : Option mH :=
  if (3 : Int32) < b7 then
    some h
  else
    f_M_sharesOf_30 rec21 FU b0 b1 b2 b3 b4 b5 b6 b7 (0 : Int32) h
set_option maxRecDepth 20000 in
theorem t_M_sharesOf_21b {sc : Nat × (Nat → Int32)} (rec21 : Nat → Int32 → Int32 → Int32 → Int32 → Int32 → Int32 → Int32 → mH → Option mH) (hrec21 : ∀ (b0 : Nat) (b1 : Int32) (b2 : Int32) (b3 : Int32) (b4 : Int32) (b5 : Int32) (b6 : Int32) (b7 : Int32) (h : mH) (h' : mH), rec21 b0 b1 b2 b3 b4 b5 b6 b7 h = some h' → G sc y_M_sharesOf prog_10_method_59_code 10 none 4 97 21 [(0, .ref b0), (1, .int b1), (2, .int b2), (3, .int b3), (4, .int b4), (5, .int b5), (6, .int b6), (7, .int b7)] [] h none h') (b0 : Nat) (b1 : Int32) (b2 : Int32) (b3 : Int32) (b4 : Int32) (b5 : Int32) (b6 : Int32) (b7 : Int32) (h : mH) (h' : mH) (hf : f_M_sharesOf_21b rec21 b0 b1 b2 b3 b4 b5 b6 b7 h = some h') : G sc y_M_sharesOf prog_10_method_59_code 10 none 4 97 21 [(0, .ref b0), (1, .int b1), (2, .int b2), (3, .int b3), (4, .int b4), (5, .int b5), (6, .int b6), (7, .int b7)] [] h none h' := by
  unfold f_M_sharesOf_21b at hf
  refine g_iload (pc := 21) 7 d_M_sharesOf_21 rfl ?_
  refine g_iconst (pc := 23) (3 : Int32) d_M_sharesOf_23 (by decide) ?_
  refine g_icmpgt (pc := 24) 127 d_M_sharesOf_24 (by decide) (fun c8 => ?_) (fun c8 => ?_)
  · replace hf := (if_pos c8).symm.trans hf
    obtain rfl := ret1 hf
    exact g_vret (pc := 127) rfl d_M_sharesOf_127
  · replace hf := (if_neg c8).symm.trans hf
    refine g_iconst (pc := 27) (0 : Int32) d_M_sharesOf_27 (by decide) ?_
    refine g_istore (pc := 28) [(8, .int (0 : Int32)), (0, .ref b0), (1, .int b1), (2, .int b2), (3, .int b3), (4, .int b4), (5, .int b5), (6, .int b6), (7, .int b7)] d_M_sharesOf_28 (Nat.le_of_ble_eq_true rfl) rfl ?_
    refine g_lv [1, 2, 3, 4, 5, 6, 7, 8, 0] rfl ?_
    exact t_M_sharesOf_30 rec21 hrec21 FU _ _ _ _ _ _ _ _ _ _ _  hf
def f_M_sharesOf_21  : Nat → Nat → Int32 → Int32 → Int32 → Int32 → Int32 → Int32 → Int32 → mH → Option mH
  | 0 => fun _ _ _ _ _ _ _ _ _ => none
  | n + 1 => f_M_sharesOf_21b  (f_M_sharesOf_21  n)
theorem t_M_sharesOf_21 {sc : Nat × (Nat → Int32)}  : ∀ (n : Nat) (b0 : Nat) (b1 : Int32) (b2 : Int32) (b3 : Int32) (b4 : Int32) (b5 : Int32) (b6 : Int32) (b7 : Int32) (h : mH) (h' : mH) (hf : f_M_sharesOf_21  n b0 b1 b2 b3 b4 b5 b6 b7 h = some h'), G sc y_M_sharesOf prog_10_method_59_code 10 none 4 97 21 [(0, .ref b0), (1, .int b1), (2, .int b2), (3, .int b3), (4, .int b4), (5, .int b5), (6, .int b6), (7, .int b7)] [] h none h'
  | 0, _, _, _, _, _, _, _, _, _, _, hf => by cases hf
  | n + 1, _, _, _, _, _, _, _, _, _, _, hf => t_M_sharesOf_21b  (f_M_sharesOf_21  n) (t_M_sharesOf_21  n) _ _ _ _ _ _ _ _ _ _ hf
def f_M_sharesOf_0  (a0 : Nat) (a1 : Int32) (a2 : Int32) (a3 : Int32) (a4 : Int32) (h : mH) : Option mH :=
  bd1 (gR h a0 8 27) fun x1 =>
  bd2 (f_M_at a1 a2 a3 a4 h) fun x5 h3 =>
  bd1 (aI h3 0 x1 x5) fun x6 =>
  f_M_sharesOf_21  FU a0 a1 a2 a3 a4 x6 (0 : Int32) (0 : Int32) h3
set_option maxRecDepth 20000 in
theorem t_M_sharesOf_0 {sc : Nat × (Nat → Int32)}  (a0 : Nat) (a1 : Int32) (a2 : Int32) (a3 : Int32) (a4 : Int32) (h : mH) (h' : mH) (hf : f_M_sharesOf_0  a0 a1 a2 a3 a4 h = some h') : G sc y_M_sharesOf prog_10_method_59_code 10 none 4 97 0 [(0, .ref a0), (1, .int a1), (2, .int a2), (3, .int a3), (4, .int a4)] [] h none h' := by
  unfold f_M_sharesOf_0 at hf
  refine g_aload_n (pc := 0) 0 d_M_sharesOf_0 rfl rfl ?_
  obtain ⟨x1, e2, hf⟩ := bd1_e hf
  refine g_get (pc := 1) (ci := 8) (kk := 27) d_M_sharesOf_1 rfl in_M (by decide) wd_965 (gR_spec e2) ?_
  refine g_iload_n (pc := 4) 1 d_M_sharesOf_4 rfl rfl ?_
  refine g_iload_n (pc := 5) 2 d_M_sharesOf_5 rfl rfl ?_
  refine g_iload_n (pc := 6) 3 d_M_sharesOf_6 rfl rfl ?_
  refine g_iload (pc := 7) 4 d_M_sharesOf_7 rfl ?_
  obtain ⟨x5, h3, e4, hf⟩ := bd2_e hf
  refine g_callS (pc := 9) [.int a1, .int a2, .int a3, .int a4] (site_of si_M_at (by decide) (by decide)) wd_1265 wd_1266 d_M_sharesOf_9 (Nat.le_of_ble_eq_true rfl) (fun z => absurd z (by decide)) (fun z => absurd z (by decide)) (fun z => absurd z (by decide)) (c_M_at e4) rfl ?_
  refine g_st [.int x5, .ref x1] rfl ?_
  obtain ⟨x6, e7, hf⟩ := bd1_e hf
  refine g_iald (pc := 12) d_M_sharesOf_12 e7 ?_
  refine g_istore (pc := 13) [(5, .int x6), (0, .ref a0), (1, .int a1), (2, .int a2), (3, .int a3), (4, .int a4)] d_M_sharesOf_13 (Nat.le_of_ble_eq_true rfl) rfl ?_
  refine g_iconst (pc := 15) (0 : Int32) d_M_sharesOf_15 (by decide) ?_
  refine g_istore (pc := 16) [(6, .int (0 : Int32)), (5, .int x6), (0, .ref a0), (1, .int a1), (2, .int a2), (3, .int a3), (4, .int a4)] d_M_sharesOf_16 (Nat.le_of_ble_eq_true rfl) rfl ?_
  refine g_iconst (pc := 18) (0 : Int32) d_M_sharesOf_18 (by decide) ?_
  refine g_istore (pc := 19) [(7, .int (0 : Int32)), (6, .int (0 : Int32)), (5, .int x6), (0, .ref a0), (1, .int a1), (2, .int a2), (3, .int a3), (4, .int a4)] d_M_sharesOf_19 (Nat.le_of_ble_eq_true rfl) rfl ?_
  refine g_lv [3, 4, 5, 6, 7, 2, 1, 0] rfl ?_
  exact t_M_sharesOf_21  FU _ _ _ _ _ _ _ _ _ _  hf
def f_M_sharesOf (a0 : Nat) (a1 : Int32) (a2 : Int32) (a3 : Int32) (a4 : Int32) (h : mH) : Option mH := f_M_sharesOf_0 a0 a1 a2 a3 a4 h
theorem c_M_sharesOf {sc : Nat × (Nat → Int32)} {a0 : Nat} {a1 : Int32} {a2 : Int32} {a3 : Int32} {a4 : Int32} {h : mH} {h' : mH} (hf : f_M_sharesOf a0 a1 a2 a3 a4 h = some h') : MM sc y_M_sharesOf prog_10_method_59_code 10 none 4 97 [.ref a0, .int a1, .int a2, .int a3, .int a4] h none h' :=
  mm_of_G (by decide) (Nat.le_of_ble_eq_true rfl) (t_M_sharesOf_0 _ _ _ _ _ _ _ hf)
/-! M rota (I)I -/
set_option maxRecDepth 100000 in
theorem dd_M_rota_0 : (decode prog_10_method_60_code 0 = .ok (.iload_n 1, 1)) ∧ (decode prog_10_method_60_code 1 = .ok (.ifCond .eq 37, 3)) ∧ (decode prog_10_method_60_code 4 = .ok (.iload_n 1, 1)) ∧ (decode prog_10_method_60_code 5 = .ok (.bipush 10, 2)) ∧ (decode prog_10_method_60_code 7 = .ok (.if_icmp .lt 29, 3)) ∧ (decode prog_10_method_60_code 10 = .ok (.aload_n 0, 1)) ∧ (decode prog_10_method_60_code 11 = .ok (.iload_n 1, 1)) ∧ (decode prog_10_method_60_code 12 = .ok (.bipush 10, 2)) ∧ (decode prog_10_method_60_code 14 = .ok (.isub, 1)) ∧ (decode prog_10_method_60_code 15 = .ok (.iconst 3, 1)) ∧ (decode prog_10_method_60_code 16 = .ok (.idiv, 1)) ∧ (decode prog_10_method_60_code 17 = .ok (.invokevirtual 210, 3)) ∧ (decode prog_10_method_60_code 20 = .ok (.ifCond .eq 16, 3)) ∧ (decode prog_10_method_60_code 23 = .ok (.aload_n 0, 1)) ∧ (decode prog_10_method_60_code 24 = .ok (.iload_n 1, 1)) ∧ (decode prog_10_method_60_code 25 = .ok (.bipush 10, 2)) ∧ (decode prog_10_method_60_code 27 = .ok (.isub, 1)) ∧ (decode prog_10_method_60_code 28 = .ok (.iconst 3, 1)) ∧ (decode prog_10_method_60_code 29 = .ok (.irem, 1)) ∧ (decode prog_10_method_60_code 30 = .ok (.invokevirtual 213, 3)) ∧ (decode prog_10_method_60_code 33 = .ok (.ifCond .ne 5, 3)) ∧ (decode prog_10_method_60_code 36 = .ok (.iconst (-1), 1)) ∧ (decode prog_10_method_60_code 37 = .ok (.ireturn, 1)) ∧ (decode prog_10_method_60_code 38 = .ok (.aload_n 0, 1)) := by
  have h : List.drop 0 prog_10_method_60_code.data.toList = 0x1b :: _ := rfl
  refine ⟨zq_k_n 27 h rfl (zq_o_27 _), ?_⟩
  replace h := zq_nx1 (q := 1) h rfl
  refine ⟨zq_k_s2 153 (fun z => .ifCond .eq z) 37 h rfl (zq_o_153 _) (by decide +kernel), ?_⟩
  replace h := zq_nx3 (q := 4) h rfl
  refine ⟨zq_k_n 27 h rfl (zq_o_27 _), ?_⟩
  replace h := zq_nx1 (q := 5) h rfl
  refine ⟨zq_k_s1 16 (fun z => .bipush z) 10 h rfl (zq_o_16 _) (by decide +kernel), ?_⟩
  replace h := zq_nx2 (q := 7) h rfl
  refine ⟨zq_k_s2 161 (fun z => .if_icmp .lt z) 29 h rfl (zq_o_161 _) (by decide +kernel), ?_⟩
  replace h := zq_nx3 (q := 10) h rfl
  refine ⟨zq_k_n 42 h rfl (zq_o_42 _), ?_⟩
  replace h := zq_nx1 (q := 11) h rfl
  refine ⟨zq_k_n 27 h rfl (zq_o_27 _), ?_⟩
  replace h := zq_nx1 (q := 12) h rfl
  refine ⟨zq_k_s1 16 (fun z => .bipush z) 10 h rfl (zq_o_16 _) (by decide +kernel), ?_⟩
  replace h := zq_nx2 (q := 14) h rfl
  refine ⟨zq_k_n 100 h rfl (zq_o_100 _), ?_⟩
  replace h := zq_nx1 (q := 15) h rfl
  refine ⟨zq_k_n 6 h rfl (zq_o_6 _), ?_⟩
  replace h := zq_nx1 (q := 16) h rfl
  refine ⟨zq_k_n 108 h rfl (zq_o_108 _), ?_⟩
  replace h := zq_nx1 (q := 17) h rfl
  refine ⟨zq_k_u2 182 (fun z => .invokevirtual z) 210 h rfl (zq_o_182 _) (by decide +kernel), ?_⟩
  replace h := zq_nx3 (q := 20) h rfl
  refine ⟨zq_k_s2 153 (fun z => .ifCond .eq z) 16 h rfl (zq_o_153 _) (by decide +kernel), ?_⟩
  replace h := zq_nx3 (q := 23) h rfl
  refine ⟨zq_k_n 42 h rfl (zq_o_42 _), ?_⟩
  replace h := zq_nx1 (q := 24) h rfl
  refine ⟨zq_k_n 27 h rfl (zq_o_27 _), ?_⟩
  replace h := zq_nx1 (q := 25) h rfl
  refine ⟨zq_k_s1 16 (fun z => .bipush z) 10 h rfl (zq_o_16 _) (by decide +kernel), ?_⟩
  replace h := zq_nx2 (q := 27) h rfl
  refine ⟨zq_k_n 100 h rfl (zq_o_100 _), ?_⟩
  replace h := zq_nx1 (q := 28) h rfl
  refine ⟨zq_k_n 6 h rfl (zq_o_6 _), ?_⟩
  replace h := zq_nx1 (q := 29) h rfl
  refine ⟨zq_k_n 112 h rfl (zq_o_112 _), ?_⟩
  replace h := zq_nx1 (q := 30) h rfl
  refine ⟨zq_k_u2 182 (fun z => .invokevirtual z) 213 h rfl (zq_o_182 _) (by decide +kernel), ?_⟩
  replace h := zq_nx3 (q := 33) h rfl
  refine ⟨zq_k_s2 154 (fun z => .ifCond .ne z) 5 h rfl (zq_o_154 _) (by decide +kernel), ?_⟩
  replace h := zq_nx3 (q := 36) h rfl
  refine ⟨zq_k_n 2 h rfl (zq_o_2 _), ?_⟩
  replace h := zq_nx1 (q := 37) h rfl
  refine ⟨zq_k_n 172 h rfl (zq_o_172 _), ?_⟩
  replace h := zq_nx1 (q := 38) h rfl
  exact zq_k_n 42 h rfl (zq_o_42 _)
theorem d_M_rota_0 : decode prog_10_method_60_code 0 = .ok (.iload_n 1, 1) := dd_M_rota_0.1
theorem d_M_rota_1 : decode prog_10_method_60_code 1 = .ok (.ifCond .eq 37, 3) := dd_M_rota_0.2.1
theorem d_M_rota_4 : decode prog_10_method_60_code 4 = .ok (.iload_n 1, 1) := dd_M_rota_0.2.2.1
theorem d_M_rota_5 : decode prog_10_method_60_code 5 = .ok (.bipush 10, 2) := dd_M_rota_0.2.2.2.1
theorem d_M_rota_7 : decode prog_10_method_60_code 7 = .ok (.if_icmp .lt 29, 3) := dd_M_rota_0.2.2.2.2.1
theorem d_M_rota_10 : decode prog_10_method_60_code 10 = .ok (.aload_n 0, 1) := dd_M_rota_0.2.2.2.2.2.1
theorem d_M_rota_11 : decode prog_10_method_60_code 11 = .ok (.iload_n 1, 1) := dd_M_rota_0.2.2.2.2.2.2.1
theorem d_M_rota_12 : decode prog_10_method_60_code 12 = .ok (.bipush 10, 2) := dd_M_rota_0.2.2.2.2.2.2.2.1
theorem d_M_rota_14 : decode prog_10_method_60_code 14 = .ok (.isub, 1) := dd_M_rota_0.2.2.2.2.2.2.2.2.1
theorem d_M_rota_15 : decode prog_10_method_60_code 15 = .ok (.iconst 3, 1) := dd_M_rota_0.2.2.2.2.2.2.2.2.2.1
theorem d_M_rota_16 : decode prog_10_method_60_code 16 = .ok (.idiv, 1) := dd_M_rota_0.2.2.2.2.2.2.2.2.2.2.1
theorem d_M_rota_17 : decode prog_10_method_60_code 17 = .ok (.invokevirtual 210, 3) := dd_M_rota_0.2.2.2.2.2.2.2.2.2.2.2.1
theorem d_M_rota_20 : decode prog_10_method_60_code 20 = .ok (.ifCond .eq 16, 3) := dd_M_rota_0.2.2.2.2.2.2.2.2.2.2.2.2.1
theorem d_M_rota_23 : decode prog_10_method_60_code 23 = .ok (.aload_n 0, 1) := dd_M_rota_0.2.2.2.2.2.2.2.2.2.2.2.2.2.1
theorem d_M_rota_24 : decode prog_10_method_60_code 24 = .ok (.iload_n 1, 1) := dd_M_rota_0.2.2.2.2.2.2.2.2.2.2.2.2.2.2.1
theorem d_M_rota_25 : decode prog_10_method_60_code 25 = .ok (.bipush 10, 2) := dd_M_rota_0.2.2.2.2.2.2.2.2.2.2.2.2.2.2.2.1
theorem d_M_rota_27 : decode prog_10_method_60_code 27 = .ok (.isub, 1) := dd_M_rota_0.2.2.2.2.2.2.2.2.2.2.2.2.2.2.2.2.1
theorem d_M_rota_28 : decode prog_10_method_60_code 28 = .ok (.iconst 3, 1) := dd_M_rota_0.2.2.2.2.2.2.2.2.2.2.2.2.2.2.2.2.2.1
theorem d_M_rota_29 : decode prog_10_method_60_code 29 = .ok (.irem, 1) := dd_M_rota_0.2.2.2.2.2.2.2.2.2.2.2.2.2.2.2.2.2.2.1
theorem d_M_rota_30 : decode prog_10_method_60_code 30 = .ok (.invokevirtual 213, 3) := dd_M_rota_0.2.2.2.2.2.2.2.2.2.2.2.2.2.2.2.2.2.2.2.1
theorem d_M_rota_33 : decode prog_10_method_60_code 33 = .ok (.ifCond .ne 5, 3) := dd_M_rota_0.2.2.2.2.2.2.2.2.2.2.2.2.2.2.2.2.2.2.2.2.1
theorem d_M_rota_36 : decode prog_10_method_60_code 36 = .ok (.iconst (-1), 1) := dd_M_rota_0.2.2.2.2.2.2.2.2.2.2.2.2.2.2.2.2.2.2.2.2.2.1
theorem d_M_rota_37 : decode prog_10_method_60_code 37 = .ok (.ireturn, 1) := dd_M_rota_0.2.2.2.2.2.2.2.2.2.2.2.2.2.2.2.2.2.2.2.2.2.2.1
theorem d_M_rota_38 : decode prog_10_method_60_code 38 = .ok (.aload_n 0, 1) := dd_M_rota_0.2.2.2.2.2.2.2.2.2.2.2.2.2.2.2.2.2.2.2.2.2.2.2
set_option maxRecDepth 100000 in
theorem dd_M_rota_39 : (decode prog_10_method_60_code 39 = .ok (.aload_n 0, 1)) ∧ (decode prog_10_method_60_code 40 = .ok (.getfield 7, 3)) ∧ (decode prog_10_method_60_code 43 = .ok (.bipush 10, 2)) ∧ (decode prog_10_method_60_code 45 = .ok (.iaload, 1)) ∧ (decode prog_10_method_60_code 46 = .ok (.invokevirtual 260, 3)) ∧ (decode prog_10_method_60_code 49 = .ok (.aload_n 0, 1)) ∧ (decode prog_10_method_60_code 50 = .ok (.invokevirtual 263, 3)) ∧ (decode prog_10_method_60_code 53 = .ok (.istore_n 2, 1)) ∧ (decode prog_10_method_60_code 54 = .ok (.iload_n 2, 1)) ∧ (decode prog_10_method_60_code 55 = .ok (.ldc 246, 2)) ∧ (decode prog_10_method_60_code 57 = .ok (.if_icmp .eq 7, 3)) ∧ (decode prog_10_method_60_code 60 = .ok (.iload_n 1, 1)) ∧ (decode prog_10_method_60_code 61 = .ok (.ifCond .ne 16, 3)) ∧ (decode prog_10_method_60_code 64 = .ok (.iload_n 2, 1)) ∧ (decode prog_10_method_60_code 65 = .ok (.ldc 246, 2)) ∧ (decode prog_10_method_60_code 67 = .ok (.if_icmp .ne 8, 3)) ∧ (decode prog_10_method_60_code 70 = .ok (.bipush (-4), 2)) ∧ (decode prog_10_method_60_code 72 = .ok (.goto 4, 3)) ∧ (decode prog_10_method_60_code 75 = .ok (.iload_n 2, 1)) ∧ (decode prog_10_method_60_code 76 = .ok (.ireturn, 1)) ∧ (decode prog_10_method_60_code 77 = .ok (.aload_n 0, 1)) ∧ (decode prog_10_method_60_code 78 = .ok (.getfield 59, 3)) ∧ (decode prog_10_method_60_code 81 = .ok (.iconst 0, 1)) ∧ (decode prog_10_method_60_code 82 = .ok (.iaload, 1)) := by
  have h : List.drop 39 prog_10_method_60_code.data.toList = 0x2a :: _ := rfl
  refine ⟨zq_k_n 42 h rfl (zq_o_42 _), ?_⟩
  replace h := zq_nx1 (q := 40) h rfl
  refine ⟨zq_k_u2 180 (fun z => .getfield z) 7 h rfl (zq_o_180 _) (by decide +kernel), ?_⟩
  replace h := zq_nx3 (q := 43) h rfl
  refine ⟨zq_k_s1 16 (fun z => .bipush z) 10 h rfl (zq_o_16 _) (by decide +kernel), ?_⟩
  replace h := zq_nx2 (q := 45) h rfl
  refine ⟨zq_k_n 46 h rfl (zq_o_46 _), ?_⟩
  replace h := zq_nx1 (q := 46) h rfl
  refine ⟨zq_k_u2 182 (fun z => .invokevirtual z) 260 h rfl (zq_o_182 _) (by decide +kernel), ?_⟩
  replace h := zq_nx3 (q := 49) h rfl
  refine ⟨zq_k_n 42 h rfl (zq_o_42 _), ?_⟩
  replace h := zq_nx1 (q := 50) h rfl
  refine ⟨zq_k_u2 182 (fun z => .invokevirtual z) 263 h rfl (zq_o_182 _) (by decide +kernel), ?_⟩
  replace h := zq_nx3 (q := 53) h rfl
  refine ⟨zq_k_n 61 h rfl (zq_o_61 _), ?_⟩
  replace h := zq_nx1 (q := 54) h rfl
  refine ⟨zq_k_n 28 h rfl (zq_o_28 _), ?_⟩
  replace h := zq_nx1 (q := 55) h rfl
  refine ⟨zq_k_u1 18 (fun z => .ldc z) 246 h rfl (zq_o_18 _) (by decide +kernel), ?_⟩
  replace h := zq_nx2 (q := 57) h rfl
  refine ⟨zq_k_s2 159 (fun z => .if_icmp .eq z) 7 h rfl (zq_o_159 _) (by decide +kernel), ?_⟩
  replace h := zq_nx3 (q := 60) h rfl
  refine ⟨zq_k_n 27 h rfl (zq_o_27 _), ?_⟩
  replace h := zq_nx1 (q := 61) h rfl
  refine ⟨zq_k_s2 154 (fun z => .ifCond .ne z) 16 h rfl (zq_o_154 _) (by decide +kernel), ?_⟩
  replace h := zq_nx3 (q := 64) h rfl
  refine ⟨zq_k_n 28 h rfl (zq_o_28 _), ?_⟩
  replace h := zq_nx1 (q := 65) h rfl
  refine ⟨zq_k_u1 18 (fun z => .ldc z) 246 h rfl (zq_o_18 _) (by decide +kernel), ?_⟩
  replace h := zq_nx2 (q := 67) h rfl
  refine ⟨zq_k_s2 160 (fun z => .if_icmp .ne z) 8 h rfl (zq_o_160 _) (by decide +kernel), ?_⟩
  replace h := zq_nx3 (q := 70) h rfl
  refine ⟨zq_k_s1 16 (fun z => .bipush z) (-4) h rfl (zq_o_16 _) (by decide +kernel), ?_⟩
  replace h := zq_nx2 (q := 72) h rfl
  refine ⟨zq_k_s2 167 (fun z => .goto z) 4 h rfl (zq_o_167 _) (by decide +kernel), ?_⟩
  replace h := zq_nx3 (q := 75) h rfl
  refine ⟨zq_k_n 28 h rfl (zq_o_28 _), ?_⟩
  replace h := zq_nx1 (q := 76) h rfl
  refine ⟨zq_k_n 172 h rfl (zq_o_172 _), ?_⟩
  replace h := zq_nx1 (q := 77) h rfl
  refine ⟨zq_k_n 42 h rfl (zq_o_42 _), ?_⟩
  replace h := zq_nx1 (q := 78) h rfl
  refine ⟨zq_k_u2 180 (fun z => .getfield z) 59 h rfl (zq_o_180 _) (by decide +kernel), ?_⟩
  replace h := zq_nx3 (q := 81) h rfl
  refine ⟨zq_k_n 3 h rfl (zq_o_3 _), ?_⟩
  replace h := zq_nx1 (q := 82) h rfl
  exact zq_k_n 46 h rfl (zq_o_46 _)
theorem d_M_rota_39 : decode prog_10_method_60_code 39 = .ok (.aload_n 0, 1) := dd_M_rota_39.1
theorem d_M_rota_40 : decode prog_10_method_60_code 40 = .ok (.getfield 7, 3) := dd_M_rota_39.2.1
theorem d_M_rota_43 : decode prog_10_method_60_code 43 = .ok (.bipush 10, 2) := dd_M_rota_39.2.2.1
theorem d_M_rota_45 : decode prog_10_method_60_code 45 = .ok (.iaload, 1) := dd_M_rota_39.2.2.2.1
theorem d_M_rota_46 : decode prog_10_method_60_code 46 = .ok (.invokevirtual 260, 3) := dd_M_rota_39.2.2.2.2.1
theorem d_M_rota_49 : decode prog_10_method_60_code 49 = .ok (.aload_n 0, 1) := dd_M_rota_39.2.2.2.2.2.1
theorem d_M_rota_50 : decode prog_10_method_60_code 50 = .ok (.invokevirtual 263, 3) := dd_M_rota_39.2.2.2.2.2.2.1
theorem d_M_rota_53 : decode prog_10_method_60_code 53 = .ok (.istore_n 2, 1) := dd_M_rota_39.2.2.2.2.2.2.2.1
theorem d_M_rota_54 : decode prog_10_method_60_code 54 = .ok (.iload_n 2, 1) := dd_M_rota_39.2.2.2.2.2.2.2.2.1
theorem d_M_rota_55 : decode prog_10_method_60_code 55 = .ok (.ldc 246, 2) := dd_M_rota_39.2.2.2.2.2.2.2.2.2.1
theorem d_M_rota_57 : decode prog_10_method_60_code 57 = .ok (.if_icmp .eq 7, 3) := dd_M_rota_39.2.2.2.2.2.2.2.2.2.2.1
theorem d_M_rota_60 : decode prog_10_method_60_code 60 = .ok (.iload_n 1, 1) := dd_M_rota_39.2.2.2.2.2.2.2.2.2.2.2.1
theorem d_M_rota_61 : decode prog_10_method_60_code 61 = .ok (.ifCond .ne 16, 3) := dd_M_rota_39.2.2.2.2.2.2.2.2.2.2.2.2.1
theorem d_M_rota_64 : decode prog_10_method_60_code 64 = .ok (.iload_n 2, 1) := dd_M_rota_39.2.2.2.2.2.2.2.2.2.2.2.2.2.1
theorem d_M_rota_65 : decode prog_10_method_60_code 65 = .ok (.ldc 246, 2) := dd_M_rota_39.2.2.2.2.2.2.2.2.2.2.2.2.2.2.1
theorem d_M_rota_67 : decode prog_10_method_60_code 67 = .ok (.if_icmp .ne 8, 3) := dd_M_rota_39.2.2.2.2.2.2.2.2.2.2.2.2.2.2.2.1
theorem d_M_rota_70 : decode prog_10_method_60_code 70 = .ok (.bipush (-4), 2) := dd_M_rota_39.2.2.2.2.2.2.2.2.2.2.2.2.2.2.2.2.1
theorem d_M_rota_72 : decode prog_10_method_60_code 72 = .ok (.goto 4, 3) := dd_M_rota_39.2.2.2.2.2.2.2.2.2.2.2.2.2.2.2.2.2.1
theorem d_M_rota_75 : decode prog_10_method_60_code 75 = .ok (.iload_n 2, 1) := dd_M_rota_39.2.2.2.2.2.2.2.2.2.2.2.2.2.2.2.2.2.2.1
theorem d_M_rota_76 : decode prog_10_method_60_code 76 = .ok (.ireturn, 1) := dd_M_rota_39.2.2.2.2.2.2.2.2.2.2.2.2.2.2.2.2.2.2.2.1
theorem d_M_rota_77 : decode prog_10_method_60_code 77 = .ok (.aload_n 0, 1) := dd_M_rota_39.2.2.2.2.2.2.2.2.2.2.2.2.2.2.2.2.2.2.2.2.1
theorem d_M_rota_78 : decode prog_10_method_60_code 78 = .ok (.getfield 59, 3) := dd_M_rota_39.2.2.2.2.2.2.2.2.2.2.2.2.2.2.2.2.2.2.2.2.2.1
theorem d_M_rota_81 : decode prog_10_method_60_code 81 = .ok (.iconst 0, 1) := dd_M_rota_39.2.2.2.2.2.2.2.2.2.2.2.2.2.2.2.2.2.2.2.2.2.2.1
theorem d_M_rota_82 : decode prog_10_method_60_code 82 = .ok (.iaload, 1) := dd_M_rota_39.2.2.2.2.2.2.2.2.2.2.2.2.2.2.2.2.2.2.2.2.2.2.2
set_option maxRecDepth 100000 in
theorem dd_M_rota_83 : (decode prog_10_method_60_code 83 = .ok (.istore_n 3, 1)) ∧ (decode prog_10_method_60_code 84 = .ok (.aload_n 0, 1)) ∧ (decode prog_10_method_60_code 85 = .ok (.getfield 59, 3)) ∧ (decode prog_10_method_60_code 88 = .ok (.iconst 1, 1)) ∧ (decode prog_10_method_60_code 89 = .ok (.iaload, 1)) ∧ (decode prog_10_method_60_code 90 = .ok (.istore 4, 2)) ∧ (decode prog_10_method_60_code 92 = .ok (.aload_n 0, 1)) ∧ (decode prog_10_method_60_code 93 = .ok (.getfield 59, 3)) ∧ (decode prog_10_method_60_code 96 = .ok (.iconst 2, 1)) ∧ (decode prog_10_method_60_code 97 = .ok (.iaload, 1)) ∧ (decode prog_10_method_60_code 98 = .ok (.istore 5, 2)) ∧ (decode prog_10_method_60_code 100 = .ok (.iconst 0, 1)) ∧ (decode prog_10_method_60_code 101 = .ok (.istore 6, 2)) ∧ (decode prog_10_method_60_code 103 = .ok (.iload 6, 2)) ∧ (decode prog_10_method_60_code 105 = .ok (.iload_n 1, 1)) ∧ (decode prog_10_method_60_code 106 = .ok (.bipush 10, 2)) ∧ (decode prog_10_method_60_code 108 = .ok (.isub, 1)) ∧ (decode prog_10_method_60_code 109 = .ok (.iconst 3, 1)) ∧ (decode prog_10_method_60_code 110 = .ok (.idiv, 1)) ∧ (decode prog_10_method_60_code 111 = .ok (.if_icmp .gt 51, 3)) ∧ (decode prog_10_method_60_code 114 = .ok (.aload_n 0, 1)) ∧ (decode prog_10_method_60_code 115 = .ok (.iload 6, 2)) ∧ (decode prog_10_method_60_code 117 = .ok (.iload_n 3, 1)) ∧ (decode prog_10_method_60_code 118 = .ok (.iload 4, 2)) := by
  have h : List.drop 83 prog_10_method_60_code.data.toList = 0x3e :: _ := rfl
  refine ⟨zq_k_n 62 h rfl (zq_o_62 _), ?_⟩
  replace h := zq_nx1 (q := 84) h rfl
  refine ⟨zq_k_n 42 h rfl (zq_o_42 _), ?_⟩
  replace h := zq_nx1 (q := 85) h rfl
  refine ⟨zq_k_u2 180 (fun z => .getfield z) 59 h rfl (zq_o_180 _) (by decide +kernel), ?_⟩
  replace h := zq_nx3 (q := 88) h rfl
  refine ⟨zq_k_n 4 h rfl (zq_o_4 _), ?_⟩
  replace h := zq_nx1 (q := 89) h rfl
  refine ⟨zq_k_n 46 h rfl (zq_o_46 _), ?_⟩
  replace h := zq_nx1 (q := 90) h rfl
  refine ⟨zq_k_u1 54 (fun z => .istore z) 4 h rfl (zq_o_54 _) (by decide +kernel), ?_⟩
  replace h := zq_nx2 (q := 92) h rfl
  refine ⟨zq_k_n 42 h rfl (zq_o_42 _), ?_⟩
  replace h := zq_nx1 (q := 93) h rfl
  refine ⟨zq_k_u2 180 (fun z => .getfield z) 59 h rfl (zq_o_180 _) (by decide +kernel), ?_⟩
  replace h := zq_nx3 (q := 96) h rfl
  refine ⟨zq_k_n 5 h rfl (zq_o_5 _), ?_⟩
  replace h := zq_nx1 (q := 97) h rfl
  refine ⟨zq_k_n 46 h rfl (zq_o_46 _), ?_⟩
  replace h := zq_nx1 (q := 98) h rfl
  refine ⟨zq_k_u1 54 (fun z => .istore z) 5 h rfl (zq_o_54 _) (by decide +kernel), ?_⟩
  replace h := zq_nx2 (q := 100) h rfl
  refine ⟨zq_k_n 3 h rfl (zq_o_3 _), ?_⟩
  replace h := zq_nx1 (q := 101) h rfl
  refine ⟨zq_k_u1 54 (fun z => .istore z) 6 h rfl (zq_o_54 _) (by decide +kernel), ?_⟩
  replace h := zq_nx2 (q := 103) h rfl
  refine ⟨zq_k_u1 21 (fun z => .iload z) 6 h rfl (zq_o_21 _) (by decide +kernel), ?_⟩
  replace h := zq_nx2 (q := 105) h rfl
  refine ⟨zq_k_n 27 h rfl (zq_o_27 _), ?_⟩
  replace h := zq_nx1 (q := 106) h rfl
  refine ⟨zq_k_s1 16 (fun z => .bipush z) 10 h rfl (zq_o_16 _) (by decide +kernel), ?_⟩
  replace h := zq_nx2 (q := 108) h rfl
  refine ⟨zq_k_n 100 h rfl (zq_o_100 _), ?_⟩
  replace h := zq_nx1 (q := 109) h rfl
  refine ⟨zq_k_n 6 h rfl (zq_o_6 _), ?_⟩
  replace h := zq_nx1 (q := 110) h rfl
  refine ⟨zq_k_n 108 h rfl (zq_o_108 _), ?_⟩
  replace h := zq_nx1 (q := 111) h rfl
  refine ⟨zq_k_s2 163 (fun z => .if_icmp .gt z) 51 h rfl (zq_o_163 _) (by decide +kernel), ?_⟩
  replace h := zq_nx3 (q := 114) h rfl
  refine ⟨zq_k_n 42 h rfl (zq_o_42 _), ?_⟩
  replace h := zq_nx1 (q := 115) h rfl
  refine ⟨zq_k_u1 21 (fun z => .iload z) 6 h rfl (zq_o_21 _) (by decide +kernel), ?_⟩
  replace h := zq_nx2 (q := 117) h rfl
  refine ⟨zq_k_n 29 h rfl (zq_o_29 _), ?_⟩
  replace h := zq_nx1 (q := 118) h rfl
  exact zq_k_u1 21 (fun z => .iload z) 4 h rfl (zq_o_21 _) (by decide +kernel)
theorem d_M_rota_83 : decode prog_10_method_60_code 83 = .ok (.istore_n 3, 1) := dd_M_rota_83.1
theorem d_M_rota_84 : decode prog_10_method_60_code 84 = .ok (.aload_n 0, 1) := dd_M_rota_83.2.1
theorem d_M_rota_85 : decode prog_10_method_60_code 85 = .ok (.getfield 59, 3) := dd_M_rota_83.2.2.1
theorem d_M_rota_88 : decode prog_10_method_60_code 88 = .ok (.iconst 1, 1) := dd_M_rota_83.2.2.2.1
theorem d_M_rota_89 : decode prog_10_method_60_code 89 = .ok (.iaload, 1) := dd_M_rota_83.2.2.2.2.1
theorem d_M_rota_90 : decode prog_10_method_60_code 90 = .ok (.istore 4, 2) := dd_M_rota_83.2.2.2.2.2.1
theorem d_M_rota_92 : decode prog_10_method_60_code 92 = .ok (.aload_n 0, 1) := dd_M_rota_83.2.2.2.2.2.2.1
theorem d_M_rota_93 : decode prog_10_method_60_code 93 = .ok (.getfield 59, 3) := dd_M_rota_83.2.2.2.2.2.2.2.1
theorem d_M_rota_96 : decode prog_10_method_60_code 96 = .ok (.iconst 2, 1) := dd_M_rota_83.2.2.2.2.2.2.2.2.1
theorem d_M_rota_97 : decode prog_10_method_60_code 97 = .ok (.iaload, 1) := dd_M_rota_83.2.2.2.2.2.2.2.2.2.1
theorem d_M_rota_98 : decode prog_10_method_60_code 98 = .ok (.istore 5, 2) := dd_M_rota_83.2.2.2.2.2.2.2.2.2.2.1
theorem d_M_rota_100 : decode prog_10_method_60_code 100 = .ok (.iconst 0, 1) := dd_M_rota_83.2.2.2.2.2.2.2.2.2.2.2.1
theorem d_M_rota_101 : decode prog_10_method_60_code 101 = .ok (.istore 6, 2) := dd_M_rota_83.2.2.2.2.2.2.2.2.2.2.2.2.1
theorem d_M_rota_103 : decode prog_10_method_60_code 103 = .ok (.iload 6, 2) := dd_M_rota_83.2.2.2.2.2.2.2.2.2.2.2.2.2.1
theorem d_M_rota_105 : decode prog_10_method_60_code 105 = .ok (.iload_n 1, 1) := dd_M_rota_83.2.2.2.2.2.2.2.2.2.2.2.2.2.2.1
theorem d_M_rota_106 : decode prog_10_method_60_code 106 = .ok (.bipush 10, 2) := dd_M_rota_83.2.2.2.2.2.2.2.2.2.2.2.2.2.2.2.1
theorem d_M_rota_108 : decode prog_10_method_60_code 108 = .ok (.isub, 1) := dd_M_rota_83.2.2.2.2.2.2.2.2.2.2.2.2.2.2.2.2.1
theorem d_M_rota_109 : decode prog_10_method_60_code 109 = .ok (.iconst 3, 1) := dd_M_rota_83.2.2.2.2.2.2.2.2.2.2.2.2.2.2.2.2.2.1
theorem d_M_rota_110 : decode prog_10_method_60_code 110 = .ok (.idiv, 1) := dd_M_rota_83.2.2.2.2.2.2.2.2.2.2.2.2.2.2.2.2.2.2.1
theorem d_M_rota_111 : decode prog_10_method_60_code 111 = .ok (.if_icmp .gt 51, 3) := dd_M_rota_83.2.2.2.2.2.2.2.2.2.2.2.2.2.2.2.2.2.2.2.1
theorem d_M_rota_114 : decode prog_10_method_60_code 114 = .ok (.aload_n 0, 1) := dd_M_rota_83.2.2.2.2.2.2.2.2.2.2.2.2.2.2.2.2.2.2.2.2.1
theorem d_M_rota_115 : decode prog_10_method_60_code 115 = .ok (.iload 6, 2) := dd_M_rota_83.2.2.2.2.2.2.2.2.2.2.2.2.2.2.2.2.2.2.2.2.2.1
theorem d_M_rota_117 : decode prog_10_method_60_code 117 = .ok (.iload_n 3, 1) := dd_M_rota_83.2.2.2.2.2.2.2.2.2.2.2.2.2.2.2.2.2.2.2.2.2.2.1
theorem d_M_rota_118 : decode prog_10_method_60_code 118 = .ok (.iload 4, 2) := dd_M_rota_83.2.2.2.2.2.2.2.2.2.2.2.2.2.2.2.2.2.2.2.2.2.2.2
set_option maxRecDepth 100000 in
theorem dd_M_rota_120 : (decode prog_10_method_60_code 120 = .ok (.iload 5, 2)) ∧ (decode prog_10_method_60_code 122 = .ok (.invokevirtual 266, 3)) ∧ (decode prog_10_method_60_code 125 = .ok (.iload_n 3, 1)) ∧ (decode prog_10_method_60_code 126 = .ok (.aload_n 0, 1)) ∧ (decode prog_10_method_60_code 127 = .ok (.getfield 62, 3)) ∧ (decode prog_10_method_60_code 130 = .ok (.iconst 0, 1)) ∧ (decode prog_10_method_60_code 131 = .ok (.iaload, 1)) ∧ (decode prog_10_method_60_code 132 = .ok (.isub, 1)) ∧ (decode prog_10_method_60_code 133 = .ok (.istore_n 3, 1)) ∧ (decode prog_10_method_60_code 134 = .ok (.iload 4, 2)) ∧ (decode prog_10_method_60_code 136 = .ok (.aload_n 0, 1)) ∧ (decode prog_10_method_60_code 137 = .ok (.getfield 62, 3)) ∧ (decode prog_10_method_60_code 140 = .ok (.iconst 1, 1)) ∧ (decode prog_10_method_60_code 141 = .ok (.iaload, 1)) ∧ (decode prog_10_method_60_code 142 = .ok (.isub, 1)) ∧ (decode prog_10_method_60_code 143 = .ok (.istore 4, 2)) ∧ (decode prog_10_method_60_code 145 = .ok (.iload 5, 2)) ∧ (decode prog_10_method_60_code 147 = .ok (.aload_n 0, 1)) ∧ (decode prog_10_method_60_code 148 = .ok (.getfield 62, 3)) ∧ (decode prog_10_method_60_code 151 = .ok (.iconst 2, 1)) ∧ (decode prog_10_method_60_code 152 = .ok (.iaload, 1)) ∧ (decode prog_10_method_60_code 153 = .ok (.isub, 1)) ∧ (decode prog_10_method_60_code 154 = .ok (.istore 5, 2)) ∧ (decode prog_10_method_60_code 156 = .ok (.iinc 6 1, 3)) := by
  have h : List.drop 120 prog_10_method_60_code.data.toList = 0x15 :: _ := rfl
  refine ⟨zq_k_u1 21 (fun z => .iload z) 5 h rfl (zq_o_21 _) (by decide +kernel), ?_⟩
  replace h := zq_nx2 (q := 122) h rfl
  refine ⟨zq_k_u2 182 (fun z => .invokevirtual z) 266 h rfl (zq_o_182 _) (by decide +kernel), ?_⟩
  replace h := zq_nx3 (q := 125) h rfl
  refine ⟨zq_k_n 29 h rfl (zq_o_29 _), ?_⟩
  replace h := zq_nx1 (q := 126) h rfl
  refine ⟨zq_k_n 42 h rfl (zq_o_42 _), ?_⟩
  replace h := zq_nx1 (q := 127) h rfl
  refine ⟨zq_k_u2 180 (fun z => .getfield z) 62 h rfl (zq_o_180 _) (by decide +kernel), ?_⟩
  replace h := zq_nx3 (q := 130) h rfl
  refine ⟨zq_k_n 3 h rfl (zq_o_3 _), ?_⟩
  replace h := zq_nx1 (q := 131) h rfl
  refine ⟨zq_k_n 46 h rfl (zq_o_46 _), ?_⟩
  replace h := zq_nx1 (q := 132) h rfl
  refine ⟨zq_k_n 100 h rfl (zq_o_100 _), ?_⟩
  replace h := zq_nx1 (q := 133) h rfl
  refine ⟨zq_k_n 62 h rfl (zq_o_62 _), ?_⟩
  replace h := zq_nx1 (q := 134) h rfl
  refine ⟨zq_k_u1 21 (fun z => .iload z) 4 h rfl (zq_o_21 _) (by decide +kernel), ?_⟩
  replace h := zq_nx2 (q := 136) h rfl
  refine ⟨zq_k_n 42 h rfl (zq_o_42 _), ?_⟩
  replace h := zq_nx1 (q := 137) h rfl
  refine ⟨zq_k_u2 180 (fun z => .getfield z) 62 h rfl (zq_o_180 _) (by decide +kernel), ?_⟩
  replace h := zq_nx3 (q := 140) h rfl
  refine ⟨zq_k_n 4 h rfl (zq_o_4 _), ?_⟩
  replace h := zq_nx1 (q := 141) h rfl
  refine ⟨zq_k_n 46 h rfl (zq_o_46 _), ?_⟩
  replace h := zq_nx1 (q := 142) h rfl
  refine ⟨zq_k_n 100 h rfl (zq_o_100 _), ?_⟩
  replace h := zq_nx1 (q := 143) h rfl
  refine ⟨zq_k_u1 54 (fun z => .istore z) 4 h rfl (zq_o_54 _) (by decide +kernel), ?_⟩
  replace h := zq_nx2 (q := 145) h rfl
  refine ⟨zq_k_u1 21 (fun z => .iload z) 5 h rfl (zq_o_21 _) (by decide +kernel), ?_⟩
  replace h := zq_nx2 (q := 147) h rfl
  refine ⟨zq_k_n 42 h rfl (zq_o_42 _), ?_⟩
  replace h := zq_nx1 (q := 148) h rfl
  refine ⟨zq_k_u2 180 (fun z => .getfield z) 62 h rfl (zq_o_180 _) (by decide +kernel), ?_⟩
  replace h := zq_nx3 (q := 151) h rfl
  refine ⟨zq_k_n 5 h rfl (zq_o_5 _), ?_⟩
  replace h := zq_nx1 (q := 152) h rfl
  refine ⟨zq_k_n 46 h rfl (zq_o_46 _), ?_⟩
  replace h := zq_nx1 (q := 153) h rfl
  refine ⟨zq_k_n 100 h rfl (zq_o_100 _), ?_⟩
  replace h := zq_nx1 (q := 154) h rfl
  refine ⟨zq_k_u1 54 (fun z => .istore z) 5 h rfl (zq_o_54 _) (by decide +kernel), ?_⟩
  replace h := zq_nx2 (q := 156) h rfl
  exact zq_k_iinc 6 1 h rfl (zq_o_132 _) (by decide +kernel) (by decide +kernel)
theorem d_M_rota_120 : decode prog_10_method_60_code 120 = .ok (.iload 5, 2) := dd_M_rota_120.1
theorem d_M_rota_122 : decode prog_10_method_60_code 122 = .ok (.invokevirtual 266, 3) := dd_M_rota_120.2.1
theorem d_M_rota_125 : decode prog_10_method_60_code 125 = .ok (.iload_n 3, 1) := dd_M_rota_120.2.2.1
theorem d_M_rota_126 : decode prog_10_method_60_code 126 = .ok (.aload_n 0, 1) := dd_M_rota_120.2.2.2.1
theorem d_M_rota_127 : decode prog_10_method_60_code 127 = .ok (.getfield 62, 3) := dd_M_rota_120.2.2.2.2.1
theorem d_M_rota_130 : decode prog_10_method_60_code 130 = .ok (.iconst 0, 1) := dd_M_rota_120.2.2.2.2.2.1
theorem d_M_rota_131 : decode prog_10_method_60_code 131 = .ok (.iaload, 1) := dd_M_rota_120.2.2.2.2.2.2.1
theorem d_M_rota_132 : decode prog_10_method_60_code 132 = .ok (.isub, 1) := dd_M_rota_120.2.2.2.2.2.2.2.1
theorem d_M_rota_133 : decode prog_10_method_60_code 133 = .ok (.istore_n 3, 1) := dd_M_rota_120.2.2.2.2.2.2.2.2.1
theorem d_M_rota_134 : decode prog_10_method_60_code 134 = .ok (.iload 4, 2) := dd_M_rota_120.2.2.2.2.2.2.2.2.2.1
theorem d_M_rota_136 : decode prog_10_method_60_code 136 = .ok (.aload_n 0, 1) := dd_M_rota_120.2.2.2.2.2.2.2.2.2.2.1
theorem d_M_rota_137 : decode prog_10_method_60_code 137 = .ok (.getfield 62, 3) := dd_M_rota_120.2.2.2.2.2.2.2.2.2.2.2.1
theorem d_M_rota_140 : decode prog_10_method_60_code 140 = .ok (.iconst 1, 1) := dd_M_rota_120.2.2.2.2.2.2.2.2.2.2.2.2.1
theorem d_M_rota_141 : decode prog_10_method_60_code 141 = .ok (.iaload, 1) := dd_M_rota_120.2.2.2.2.2.2.2.2.2.2.2.2.2.1
theorem d_M_rota_142 : decode prog_10_method_60_code 142 = .ok (.isub, 1) := dd_M_rota_120.2.2.2.2.2.2.2.2.2.2.2.2.2.2.1
theorem d_M_rota_143 : decode prog_10_method_60_code 143 = .ok (.istore 4, 2) := dd_M_rota_120.2.2.2.2.2.2.2.2.2.2.2.2.2.2.2.1
theorem d_M_rota_145 : decode prog_10_method_60_code 145 = .ok (.iload 5, 2) := dd_M_rota_120.2.2.2.2.2.2.2.2.2.2.2.2.2.2.2.2.1
theorem d_M_rota_147 : decode prog_10_method_60_code 147 = .ok (.aload_n 0, 1) := dd_M_rota_120.2.2.2.2.2.2.2.2.2.2.2.2.2.2.2.2.2.1
theorem d_M_rota_148 : decode prog_10_method_60_code 148 = .ok (.getfield 62, 3) := dd_M_rota_120.2.2.2.2.2.2.2.2.2.2.2.2.2.2.2.2.2.2.1
theorem d_M_rota_151 : decode prog_10_method_60_code 151 = .ok (.iconst 2, 1) := dd_M_rota_120.2.2.2.2.2.2.2.2.2.2.2.2.2.2.2.2.2.2.2.1
theorem d_M_rota_152 : decode prog_10_method_60_code 152 = .ok (.iaload, 1) := dd_M_rota_120.2.2.2.2.2.2.2.2.2.2.2.2.2.2.2.2.2.2.2.2.1
theorem d_M_rota_153 : decode prog_10_method_60_code 153 = .ok (.isub, 1) := dd_M_rota_120.2.2.2.2.2.2.2.2.2.2.2.2.2.2.2.2.2.2.2.2.2.1
theorem d_M_rota_154 : decode prog_10_method_60_code 154 = .ok (.istore 5, 2) := dd_M_rota_120.2.2.2.2.2.2.2.2.2.2.2.2.2.2.2.2.2.2.2.2.2.2.1
theorem d_M_rota_156 : decode prog_10_method_60_code 156 = .ok (.iinc 6 1, 3) := dd_M_rota_120.2.2.2.2.2.2.2.2.2.2.2.2.2.2.2.2.2.2.2.2.2.2.2
set_option maxRecDepth 100000 in
theorem dd_M_rota_159 : (decode prog_10_method_60_code 159 = .ok (.goto (-56), 3)) ∧ (decode prog_10_method_60_code 162 = .ok (.aload_n 0, 1)) ∧ (decode prog_10_method_60_code 163 = .ok (.getfield 62, 3)) ∧ (decode prog_10_method_60_code 166 = .ok (.iload_n 1, 1)) ∧ (decode prog_10_method_60_code 167 = .ok (.bipush 10, 2)) ∧ (decode prog_10_method_60_code 169 = .ok (.isub, 1)) ∧ (decode prog_10_method_60_code 170 = .ok (.iconst 3, 1)) ∧ (decode prog_10_method_60_code 171 = .ok (.irem, 1)) ∧ (decode prog_10_method_60_code 172 = .ok (.iaload, 1)) ∧ (decode prog_10_method_60_code 173 = .ok (.ireturn, 1)) := by
  have h : List.drop 159 prog_10_method_60_code.data.toList = 0xa7 :: _ := rfl
  refine ⟨zq_k_s2 167 (fun z => .goto z) (-56) h rfl (zq_o_167 _) (by decide +kernel), ?_⟩
  replace h := zq_nx3 (q := 162) h rfl
  refine ⟨zq_k_n 42 h rfl (zq_o_42 _), ?_⟩
  replace h := zq_nx1 (q := 163) h rfl
  refine ⟨zq_k_u2 180 (fun z => .getfield z) 62 h rfl (zq_o_180 _) (by decide +kernel), ?_⟩
  replace h := zq_nx3 (q := 166) h rfl
  refine ⟨zq_k_n 27 h rfl (zq_o_27 _), ?_⟩
  replace h := zq_nx1 (q := 167) h rfl
  refine ⟨zq_k_s1 16 (fun z => .bipush z) 10 h rfl (zq_o_16 _) (by decide +kernel), ?_⟩
  replace h := zq_nx2 (q := 169) h rfl
  refine ⟨zq_k_n 100 h rfl (zq_o_100 _), ?_⟩
  replace h := zq_nx1 (q := 170) h rfl
  refine ⟨zq_k_n 6 h rfl (zq_o_6 _), ?_⟩
  replace h := zq_nx1 (q := 171) h rfl
  refine ⟨zq_k_n 112 h rfl (zq_o_112 _), ?_⟩
  replace h := zq_nx1 (q := 172) h rfl
  refine ⟨zq_k_n 46 h rfl (zq_o_46 _), ?_⟩
  replace h := zq_nx1 (q := 173) h rfl
  exact zq_k_n 172 h rfl (zq_o_172 _)
theorem d_M_rota_159 : decode prog_10_method_60_code 159 = .ok (.goto (-56), 3) := dd_M_rota_159.1
theorem d_M_rota_162 : decode prog_10_method_60_code 162 = .ok (.aload_n 0, 1) := dd_M_rota_159.2.1
theorem d_M_rota_163 : decode prog_10_method_60_code 163 = .ok (.getfield 62, 3) := dd_M_rota_159.2.2.1
theorem d_M_rota_166 : decode prog_10_method_60_code 166 = .ok (.iload_n 1, 1) := dd_M_rota_159.2.2.2.1
theorem d_M_rota_167 : decode prog_10_method_60_code 167 = .ok (.bipush 10, 2) := dd_M_rota_159.2.2.2.2.1
theorem d_M_rota_169 : decode prog_10_method_60_code 169 = .ok (.isub, 1) := dd_M_rota_159.2.2.2.2.2.1
theorem d_M_rota_170 : decode prog_10_method_60_code 170 = .ok (.iconst 3, 1) := dd_M_rota_159.2.2.2.2.2.2.1
theorem d_M_rota_171 : decode prog_10_method_60_code 171 = .ok (.irem, 1) := dd_M_rota_159.2.2.2.2.2.2.2.1
theorem d_M_rota_172 : decode prog_10_method_60_code 172 = .ok (.iaload, 1) := dd_M_rota_159.2.2.2.2.2.2.2.2.1
theorem d_M_rota_173 : decode prog_10_method_60_code 173 = .ok (.ireturn, 1) := dd_M_rota_159.2.2.2.2.2.2.2.2.2
def f_M_rota_103b (rec103 : Nat → Int32 → Int32 → Int32 → Int32 → Int32 → mH → Option (Int32 × mH)) (b0 : Nat) (b1 : Int32) (b3 : Int32) (b4 : Int32) (b5 : Int32) (b6 : Int32) (h : mH) : Option (Int32 × mH) :=
  if ((b1 - (10 : Int32)) / (3 : Int32)) < b6 then
    bd1 (gR h b0 8 30) fun x43 =>
    bd1 (aI h 0 x43 ((b1 - (10 : Int32)) - (b1 - (10 : Int32)) / (3 : Int32) * (3 : Int32))) fun x45 =>
    some (x45, h)
  else
    bd1 (kC h b0 8) fun _ =>
    bd1 (f_M_sharesOf b0 b6 b3 b4 b5 h) fun h49 =>
    bd1 (gR h49 b0 8 30) fun x51 =>
    bd1 (aI h49 0 x51 (0 : Int32)) fun x53 =>
    bd1 (gR h49 b0 8 30) fun x55 =>
    bd1 (aI h49 0 x55 (1 : Int32)) fun x57 =>
    bd1 (gR h49 b0 8 30) fun x59 =>
    bd1 (aI h49 0 x59 (2 : Int32)) fun x61 =>
    rec103 b0 b1 (b3 - x53) (b4 - x57) (b5 - x61) (b6 + (1 : Int32)) h49
set_option maxRecDepth 20000 in
theorem t_M_rota_103b {sc : Nat × (Nat → Int32)} (rec103 : Nat → Int32 → Int32 → Int32 → Int32 → Int32 → mH → Option (Int32 × mH)) (hrec103 : ∀ (b0 : Nat) (b1 : Int32) (b3 : Int32) (b4 : Int32) (b5 : Int32) (b6 : Int32) (h : mH) (r : Int32) (h' : mH), rec103 b0 b1 b3 b4 b5 b6 h = some (r, h') → G sc y_M_rota prog_10_method_60_code 7 (some .int) 6 150 103 [(0, .ref b0), (1, .int b1), (3, .int b3), (4, .int b4), (5, .int b5), (6, .int b6)] [] h (some (.int r)) h') (b0 : Nat) (b1 : Int32) (b3 : Int32) (b4 : Int32) (b5 : Int32) (b6 : Int32) (h : mH) (r : Int32) (h' : mH) (hf : f_M_rota_103b rec103 b0 b1 b3 b4 b5 b6 h = some (r, h')) : G sc y_M_rota prog_10_method_60_code 7 (some .int) 6 150 103 [(0, .ref b0), (1, .int b1), (3, .int b3), (4, .int b4), (5, .int b5), (6, .int b6)] [] h (some (.int r)) h' := by
  unfold f_M_rota_103b at hf
  refine g_iload (pc := 103) 5 d_M_rota_103 rfl ?_
  refine g_iload_n (pc := 105) 1 d_M_rota_105 rfl rfl ?_
  refine g_bipush (pc := 106) (10 : Int32) d_M_rota_106 (by decide) ?_
  refine g_isub (pc := 108) d_M_rota_108 ?_
  refine g_iconst (pc := 109) (3 : Int32) d_M_rota_109 (by decide) ?_
  refine g_idiv (pc := 110) d_M_rota_110 (by decide) ?_
  refine g_icmpgt (pc := 111) 162 d_M_rota_111 (by decide) (fun c63 => ?_) (fun c63 => ?_)
  · replace hf := (if_pos c63).symm.trans hf
    refine g_aload_n (pc := 162) 0 d_M_rota_162 rfl rfl ?_
    obtain ⟨x43, e44, hf⟩ := bd1_e hf
    refine g_get (pc := 163) (ci := 8) (kk := 30) d_M_rota_163 rfl in_M (by decide) wd_968 (gR_spec e44) ?_
    refine g_iload_n (pc := 166) 1 d_M_rota_166 rfl rfl ?_
    refine g_bipush (pc := 167) (10 : Int32) d_M_rota_167 (by decide) ?_
    refine g_isub (pc := 169) d_M_rota_169 ?_
    refine g_iconst (pc := 170) (3 : Int32) d_M_rota_170 (by decide) ?_
    refine g_irem (pc := 171) d_M_rota_171 (by decide) ?_
    obtain ⟨x45, e46, hf⟩ := bd1_e hf
    refine g_iald (pc := 172) d_M_rota_172 e46 ?_
    obtain ⟨rfl, rfl⟩ := ret2 hf
    exact g_iret (pc := 173) rfl d_M_rota_173
  · replace hf := (if_neg c63).symm.trans hf
    refine g_aload_n (pc := 114) 0 d_M_rota_114 rfl rfl ?_
    refine g_iload (pc := 115) 5 d_M_rota_115 rfl ?_
    refine g_iload_n (pc := 117) 2 d_M_rota_117 rfl rfl ?_
    refine g_iload (pc := 118) 3 d_M_rota_118 rfl ?_
    refine g_iload (pc := 120) 4 d_M_rota_120 rfl ?_
    obtain ⟨u48, e47, hf⟩ := bd1_e hf
    obtain ⟨h49, e50, hf⟩ := bd1_e hf
    refine g_callV (pc := 122) (ci := 8) [.int b6, .int b3, .int b4, .int b5] (site_of si_M_sharesOf (by decide) (by decide)) wd_1282 wd_1284 wp_62 d_M_rota_122 rfl e47 (Nat.le_of_ble_eq_true rfl) (fun z => absurd z (by decide)) (fun z => absurd z (by decide)) (fun z => absurd z (by decide)) (c_M_sharesOf e50) rfl ?_
    refine g_st [] rfl ?_
    refine g_iload_n (pc := 125) 2 d_M_rota_125 rfl rfl ?_
    refine g_aload_n (pc := 126) 0 d_M_rota_126 rfl rfl ?_
    obtain ⟨x51, e52, hf⟩ := bd1_e hf
    refine g_get (pc := 127) (ci := 8) (kk := 30) d_M_rota_127 rfl in_M (by decide) wd_968 (gR_spec e52) ?_
    refine g_iconst (pc := 130) (0 : Int32) d_M_rota_130 (by decide) ?_
    obtain ⟨x53, e54, hf⟩ := bd1_e hf
    refine g_iald (pc := 131) d_M_rota_131 e54 ?_
    refine g_isub (pc := 132) d_M_rota_132 ?_
    refine g_istore_n (pc := 133) [(3, .int (b3 - x53)), (0, .ref b0), (1, .int b1), (4, .int b4), (5, .int b5), (6, .int b6)] d_M_rota_133 rfl (Nat.le_of_ble_eq_true rfl) rfl ?_
    refine g_iload (pc := 134) 3 d_M_rota_134 rfl ?_
    refine g_aload_n (pc := 136) 1 d_M_rota_136 rfl rfl ?_
    obtain ⟨x55, e56, hf⟩ := bd1_e hf
    refine g_get (pc := 137) (ci := 8) (kk := 30) d_M_rota_137 rfl in_M (by decide) wd_968 (gR_spec e56) ?_
    refine g_iconst (pc := 140) (1 : Int32) d_M_rota_140 (by decide) ?_
    obtain ⟨x57, e58, hf⟩ := bd1_e hf
    refine g_iald (pc := 141) d_M_rota_141 e58 ?_
    refine g_isub (pc := 142) d_M_rota_142 ?_
    refine g_istore (pc := 143) [(4, .int (b4 - x57)), (3, .int (b3 - x53)), (0, .ref b0), (1, .int b1), (5, .int b5), (6, .int b6)] d_M_rota_143 (Nat.le_of_ble_eq_true rfl) rfl ?_
    refine g_iload (pc := 145) 4 d_M_rota_145 rfl ?_
    refine g_aload_n (pc := 147) 2 d_M_rota_147 rfl rfl ?_
    obtain ⟨x59, e60, hf⟩ := bd1_e hf
    refine g_get (pc := 148) (ci := 8) (kk := 30) d_M_rota_148 rfl in_M (by decide) wd_968 (gR_spec e60) ?_
    refine g_iconst (pc := 151) (2 : Int32) d_M_rota_151 (by decide) ?_
    obtain ⟨x61, e62, hf⟩ := bd1_e hf
    refine g_iald (pc := 152) d_M_rota_152 e62 ?_
    refine g_isub (pc := 153) d_M_rota_153 ?_
    refine g_istore (pc := 154) [(5, .int (b5 - x61)), (4, .int (b4 - x57)), (3, .int (b3 - x53)), (0, .ref b0), (1, .int b1), (6, .int b6)] d_M_rota_154 (Nat.le_of_ble_eq_true rfl) rfl ?_
    refine g_iinc (pc := 156) 5 (b6 + (1 : Int32)) [(6, .int (b6 + (1 : Int32))), (5, .int (b5 - x61)), (4, .int (b4 - x57)), (3, .int (b3 - x53)), (0, .ref b0), (1, .int b1)] d_M_rota_156 rfl rfl (Nat.le_of_ble_eq_true rfl) rfl ?_
    refine g_goto (pc := 159) 103 d_M_rota_159 (by decide) ?_
    refine g_lv [4, 5, 3, 2, 1, 0] rfl ?_
    exact hrec103 _ _ _ _ _ _ _ _ _  hf
def f_M_rota_103  : Nat → Nat → Int32 → Int32 → Int32 → Int32 → Int32 → mH → Option (Int32 × mH)
  | 0 => fun _ _ _ _ _ _ _ => none
  | n + 1 => f_M_rota_103b  (f_M_rota_103  n)
theorem t_M_rota_103 {sc : Nat × (Nat → Int32)}  : ∀ (n : Nat) (b0 : Nat) (b1 : Int32) (b3 : Int32) (b4 : Int32) (b5 : Int32) (b6 : Int32) (h : mH) (r : Int32) (h' : mH) (hf : f_M_rota_103  n b0 b1 b3 b4 b5 b6 h = some (r, h')), G sc y_M_rota prog_10_method_60_code 7 (some .int) 6 150 103 [(0, .ref b0), (1, .int b1), (3, .int b3), (4, .int b4), (5, .int b5), (6, .int b6)] [] h (some (.int r)) h'
  | 0, _, _, _, _, _, _, _, _, _, hf => by cases hf
  | n + 1, _, _, _, _, _, _, _, _, _, hf => t_M_rota_103b  (f_M_rota_103  n) (t_M_rota_103  n) _ _ _ _ _ _ _ _ _ hf
def f_M_rota_64  (b2 : Int32) (h : mH) : Option (Int32 × mH) :=
  if b2 = (1000000 : Int32) then
    some (((-4) : Int32), h)
  else
    some (b2, h)
set_option maxRecDepth 20000 in
theorem t_M_rota_64 {sc : Nat × (Nat → Int32)}  (b2 : Int32) (h : mH) (r : Int32) (h' : mH) (hf : f_M_rota_64  b2 h = some (r, h')) : G sc y_M_rota prog_10_method_60_code 7 (some .int) 6 150 64 [(2, .int b2)] [] h (some (.int r)) h' := by
  unfold f_M_rota_64 at hf
  refine g_iload_n (pc := 64) 0 d_M_rota_64 rfl rfl ?_
  refine g_ldc (pc := 65) (1000000 : Int32) d_M_rota_65 wd_1272 ?_
  refine g_icmpne (pc := 67) 75 d_M_rota_67 (by decide) (fun c42 => ?_) (fun c42 => ?_)
  · replace hf := (if_neg c42).symm.trans hf
    refine g_iload_n (pc := 75) 0 d_M_rota_75 rfl rfl ?_
    obtain ⟨rfl, rfl⟩ := ret2 hf
    exact g_iret (pc := 76) rfl d_M_rota_76
  · replace hf := (if_pos c42).symm.trans hf
    refine g_bipush (pc := 70) ((-4) : Int32) d_M_rota_70 (by decide) ?_
    refine g_goto (pc := 72) 76 d_M_rota_72 (by decide) ?_
    obtain ⟨rfl, rfl⟩ := ret2 hf
    exact g_iret (pc := 76) rfl d_M_rota_76
def f_M_rota_38  (b0 : Nat) (b1 : Int32) (h : mH) : Option (Int32 × mH) :=
  bd1 (gR h b0 8 0) fun x15 =>
  bd1 (aI h 0 x15 (10 : Int32)) fun x17 =>
  bd1 (kC h b0 8) fun _ =>
  bd1 (f_M_startsRota b0 x17 h) fun h21 =>
  bd1 (kC h21 b0 8) fun _ =>
  bd2 (f_M_findRota b0 h21) fun x27 h25 =>
  if x27 = (1000000 : Int32) then
    f_M_rota_64  x27 h25
  else
    if b1 = 0 then
      f_M_rota_64  x27 h25
    else
      bd1 (gR h25 b0 8 29) fun x28 =>
      bd1 (aI h25 0 x28 (0 : Int32)) fun x30 =>
      bd1 (gR h25 b0 8 29) fun x32 =>
      bd1 (aI h25 0 x32 (1 : Int32)) fun x34 =>
      bd1 (gR h25 b0 8 29) fun x36 =>
      bd1 (aI h25 0 x36 (2 : Int32)) fun x38 =>
      f_M_rota_103  FU b0 b1 x30 x34 x38 (0 : Int32) h25
set_option maxRecDepth 20000 in
theorem t_M_rota_38 {sc : Nat × (Nat → Int32)}  (b0 : Nat) (b1 : Int32) (h : mH) (r : Int32) (h' : mH) (hf : f_M_rota_38  b0 b1 h = some (r, h')) : G sc y_M_rota prog_10_method_60_code 7 (some .int) 6 150 38 [(0, .ref b0), (1, .int b1)] [] h (some (.int r)) h' := by
  unfold f_M_rota_38 at hf
  refine g_aload_n (pc := 38) 0 d_M_rota_38 rfl rfl ?_
  refine g_aload_n (pc := 39) 0 d_M_rota_39 rfl rfl ?_
  obtain ⟨x15, e16, hf⟩ := bd1_e hf
  refine g_get (pc := 40) (ci := 8) (kk := 0) d_M_rota_40 rfl in_M (by decide) wd_938 (gR_spec e16) ?_
  refine g_bipush (pc := 43) (10 : Int32) d_M_rota_43 (by decide) ?_
  obtain ⟨x17, e18, hf⟩ := bd1_e hf
  refine g_iald (pc := 45) d_M_rota_45 e18 ?_
  obtain ⟨u20, e19, hf⟩ := bd1_e hf
  obtain ⟨h21, e22, hf⟩ := bd1_e hf
  refine g_callV (pc := 46) (ci := 8) [.int x17] (site_of si_M_startsRota (by decide) (by decide)) wd_1257 wd_1259 wp_57 d_M_rota_46 rfl e19 (Nat.le_of_ble_eq_true rfl) (fun z => absurd z (by decide)) (fun z => absurd z (by decide)) (fun z => absurd z (by decide)) (c_M_startsRota e22) rfl ?_
  refine g_st [] rfl ?_
  refine g_aload_n (pc := 49) 0 d_M_rota_49 rfl rfl ?_
  obtain ⟨u24, e23, hf⟩ := bd1_e hf
  obtain ⟨x27, h25, e26, hf⟩ := bd2_e hf
  refine g_callV (pc := 50) (ci := 8) [] (site_of si_M_findRota (by decide) (by decide)) wd_1261 wd_1263 wp_58 d_M_rota_50 rfl e23 (Nat.le_of_ble_eq_true rfl) (fun z => absurd z (by decide)) (fun z => absurd z (by decide)) (fun z => absurd z (by decide)) (c_M_findRota e26) rfl ?_
  refine g_st [.int x27] rfl ?_
  refine g_istore_n (pc := 53) [(2, .int x27), (0, .ref b0), (1, .int b1)] d_M_rota_53 rfl (Nat.le_of_ble_eq_true rfl) rfl ?_
  refine g_iload_n (pc := 54) 0 d_M_rota_54 rfl rfl ?_
  refine g_ldc (pc := 55) (1000000 : Int32) d_M_rota_55 wd_1272 ?_
  refine g_icmpeq (pc := 57) 64 d_M_rota_57 (by decide) (fun c41 => ?_) (fun c41 => ?_)
  · replace hf := (if_pos c41).symm.trans hf
    refine g_lv [0] rfl ?_
    exact t_M_rota_64  _ _ _ _  hf
  · replace hf := (if_neg c41).symm.trans hf
    refine g_iload_n (pc := 60) 2 d_M_rota_60 rfl rfl ?_
    refine g_ifne (pc := 61) 77 d_M_rota_61 (by decide) (fun c40 => ?_) (fun c40 => ?_)
    · replace hf := (if_neg c40).symm.trans hf
      refine g_aload_n (pc := 77) 1 d_M_rota_77 rfl rfl ?_
      obtain ⟨x28, e29, hf⟩ := bd1_e hf
      refine g_get (pc := 78) (ci := 8) (kk := 29) d_M_rota_78 rfl in_M (by decide) wd_967 (gR_spec e29) ?_
      refine g_iconst (pc := 81) (0 : Int32) d_M_rota_81 (by decide) ?_
      obtain ⟨x30, e31, hf⟩ := bd1_e hf
      refine g_iald (pc := 82) d_M_rota_82 e31 ?_
      refine g_istore_n (pc := 83) [(3, .int x30), (2, .int x27), (0, .ref b0), (1, .int b1)] d_M_rota_83 rfl (Nat.le_of_ble_eq_true rfl) rfl ?_
      refine g_aload_n (pc := 84) 2 d_M_rota_84 rfl rfl ?_
      obtain ⟨x32, e33, hf⟩ := bd1_e hf
      refine g_get (pc := 85) (ci := 8) (kk := 29) d_M_rota_85 rfl in_M (by decide) wd_967 (gR_spec e33) ?_
      refine g_iconst (pc := 88) (1 : Int32) d_M_rota_88 (by decide) ?_
      obtain ⟨x34, e35, hf⟩ := bd1_e hf
      refine g_iald (pc := 89) d_M_rota_89 e35 ?_
      refine g_istore (pc := 90) [(4, .int x34), (3, .int x30), (2, .int x27), (0, .ref b0), (1, .int b1)] d_M_rota_90 (Nat.le_of_ble_eq_true rfl) rfl ?_
      refine g_aload_n (pc := 92) 3 d_M_rota_92 rfl rfl ?_
      obtain ⟨x36, e37, hf⟩ := bd1_e hf
      refine g_get (pc := 93) (ci := 8) (kk := 29) d_M_rota_93 rfl in_M (by decide) wd_967 (gR_spec e37) ?_
      refine g_iconst (pc := 96) (2 : Int32) d_M_rota_96 (by decide) ?_
      obtain ⟨x38, e39, hf⟩ := bd1_e hf
      refine g_iald (pc := 97) d_M_rota_97 e39 ?_
      refine g_istore (pc := 98) [(5, .int x38), (4, .int x34), (3, .int x30), (2, .int x27), (0, .ref b0), (1, .int b1)] d_M_rota_98 (Nat.le_of_ble_eq_true rfl) rfl ?_
      refine g_iconst (pc := 100) (0 : Int32) d_M_rota_100 (by decide) ?_
      refine g_istore (pc := 101) [(6, .int (0 : Int32)), (5, .int x38), (4, .int x34), (3, .int x30), (2, .int x27), (0, .ref b0), (1, .int b1)] d_M_rota_101 (Nat.le_of_ble_eq_true rfl) rfl ?_
      refine g_lv [5, 6, 3, 2, 1, 0] rfl ?_
      exact t_M_rota_103  FU _ _ _ _ _ _ _ _ _  hf
    · replace hf := (if_pos c40).symm.trans hf
      refine g_lv [0] rfl ?_
      exact t_M_rota_64  _ _ _ _  hf
def f_M_rota_36   (h : mH) : Option (Int32 × mH) :=
  some (((-1) : Int32), h)
set_option maxRecDepth 20000 in
theorem t_M_rota_36 {sc : Nat × (Nat → Int32)}   (h : mH) (r : Int32) (h' : mH) (hf : f_M_rota_36   h = some (r, h')) : G sc y_M_rota prog_10_method_60_code 7 (some .int) 6 150 36 [] [] h (some (.int r)) h' := by
  unfold f_M_rota_36 at hf
  refine g_iconst (pc := 36) ((-1) : Int32) d_M_rota_36 (by decide) ?_
  obtain ⟨rfl, rfl⟩ := ret2 hf
  exact g_iret (pc := 37) rfl d_M_rota_37
def f_M_rota_0  (a0 : Nat) (a1 : Int32) (h : mH) : Option (Int32 × mH) :=
  if a1 = 0 then
    f_M_rota_38  a0 a1 h
  else
    if a1 < (10 : Int32) then
      f_M_rota_36  h
    else
      bd1 (kC h a0 8) fun _ =>
      bd2 (f_M_isLaw a0 ((a1 - (10 : Int32)) / (3 : Int32)) h) fun x5 h3 =>
      if x5 = 0 then
        f_M_rota_36  h3
      else
        bd1 (kC h3 a0 8) fun _ =>
        bd2 (f_M_isOne a0 ((a1 - (10 : Int32)) - (a1 - (10 : Int32)) / (3 : Int32) * (3 : Int32)) h3) fun x10 h8 =>
        if x10 = 0 then
          f_M_rota_36  h8
        else
          f_M_rota_38  a0 a1 h8
set_option maxRecDepth 20000 in
theorem t_M_rota_0 {sc : Nat × (Nat → Int32)}  (a0 : Nat) (a1 : Int32) (h : mH) (r : Int32) (h' : mH) (hf : f_M_rota_0  a0 a1 h = some (r, h')) : G sc y_M_rota prog_10_method_60_code 7 (some .int) 6 150 0 [(0, .ref a0), (1, .int a1)] [] h (some (.int r)) h' := by
  unfold f_M_rota_0 at hf
  refine g_iload_n (pc := 0) 1 d_M_rota_0 rfl rfl ?_
  refine g_ifeq (pc := 1) 38 d_M_rota_1 (by decide) (fun c14 => ?_) (fun c14 => ?_)
  · replace hf := (if_pos c14).symm.trans hf
    refine g_lv [0, 1] rfl ?_
    exact t_M_rota_38  _ _ _ _ _  hf
  · replace hf := (if_neg c14).symm.trans hf
    refine g_iload_n (pc := 4) 1 d_M_rota_4 rfl rfl ?_
    refine g_bipush (pc := 5) (10 : Int32) d_M_rota_5 (by decide) ?_
    refine g_icmplt (pc := 7) 36 d_M_rota_7 (by decide) (fun c13 => ?_) (fun c13 => ?_)
    · replace hf := (if_pos c13).symm.trans hf
      refine g_lv [] rfl ?_
      exact t_M_rota_36  _ _ _  hf
    · replace hf := (if_neg c13).symm.trans hf
      refine g_aload_n (pc := 10) 0 d_M_rota_10 rfl rfl ?_
      refine g_iload_n (pc := 11) 1 d_M_rota_11 rfl rfl ?_
      refine g_bipush (pc := 12) (10 : Int32) d_M_rota_12 (by decide) ?_
      refine g_isub (pc := 14) d_M_rota_14 ?_
      refine g_iconst (pc := 15) (3 : Int32) d_M_rota_15 (by decide) ?_
      refine g_idiv (pc := 16) d_M_rota_16 (by decide) ?_
      obtain ⟨u2, e1, hf⟩ := bd1_e hf
      obtain ⟨x5, h3, e4, hf⟩ := bd2_e hf
      refine g_callV (pc := 17) (ci := 8) [.int ((a1 - (10 : Int32)) / (3 : Int32))] (site_of si_M_isLaw (by decide) (by decide)) wd_1136 wd_1138 wp_44 d_M_rota_17 rfl e1 (Nat.le_of_ble_eq_true rfl) (fun z => absurd z (by decide)) (fun z => absurd z (by decide)) (fun z => absurd z (by decide)) (c_M_isLaw e4) rfl ?_
      refine g_st [.int x5] rfl ?_
      refine g_ifeq (pc := 20) 36 d_M_rota_20 (by decide) (fun c12 => ?_) (fun c12 => ?_)
      · replace hf := (if_pos c12).symm.trans hf
        refine g_lv [] rfl ?_
        exact t_M_rota_36  _ _ _  hf
      · replace hf := (if_neg c12).symm.trans hf
        refine g_aload_n (pc := 23) 0 d_M_rota_23 rfl rfl ?_
        refine g_iload_n (pc := 24) 1 d_M_rota_24 rfl rfl ?_
        refine g_bipush (pc := 25) (10 : Int32) d_M_rota_25 (by decide) ?_
        refine g_isub (pc := 27) d_M_rota_27 ?_
        refine g_iconst (pc := 28) (3 : Int32) d_M_rota_28 (by decide) ?_
        refine g_irem (pc := 29) d_M_rota_29 (by decide) ?_
        obtain ⟨u7, e6, hf⟩ := bd1_e hf
        obtain ⟨x10, h8, e9, hf⟩ := bd2_e hf
        refine g_callV (pc := 30) (ci := 8) [.int ((a1 - (10 : Int32)) - (a1 - (10 : Int32)) / (3 : Int32) * (3 : Int32))] (site_of si_M_isOne (by decide) (by decide)) wd_1160 wd_1162 wp_49 d_M_rota_30 rfl e6 (Nat.le_of_ble_eq_true rfl) (fun z => absurd z (by decide)) (fun z => absurd z (by decide)) (fun z => absurd z (by decide)) (c_M_isOne e9) rfl ?_
        refine g_st [.int x10] rfl ?_
        refine g_ifne (pc := 33) 38 d_M_rota_33 (by decide) (fun c11 => ?_) (fun c11 => ?_)
        · replace hf := (if_neg c11).symm.trans hf
          refine g_lv [0, 1] rfl ?_
          exact t_M_rota_38  _ _ _ _ _  hf
        · replace hf := (if_pos c11).symm.trans hf
          refine g_lv [] rfl ?_
          exact t_M_rota_36  _ _ _  hf
def f_M_rota (a0 : Nat) (a1 : Int32) (h : mH) : Option (Int32 × mH) := f_M_rota_0 a0 a1 h
theorem c_M_rota {sc : Nat × (Nat → Int32)} {a0 : Nat} {a1 : Int32} {h : mH} {r : Int32} {h' : mH} (hf : f_M_rota a0 a1 h = some (r, h')) : MM sc y_M_rota prog_10_method_60_code 7 (some .int) 6 150 [.ref a0, .int a1] h (some (.int r)) h' :=
  mm_of_G (by decide) (Nat.le_of_ble_eq_true rfl) (t_M_rota_0 _ _ _ _ _ hf)
/-! M more (I)I -/
set_option maxRecDepth 100000 in
theorem dd_M_more_0 : (decode prog_10_method_61_code 0 = .ok (.aload_n 0, 1)) ∧ (decode prog_10_method_61_code 1 = .ok (.iload_n 1, 1)) ∧ (decode prog_10_method_61_code 2 = .ok (.invokevirtual 213, 3)) ∧ (decode prog_10_method_61_code 5 = .ok (.ifCond .ne 5, 3)) ∧ (decode prog_10_method_61_code 8 = .ok (.iconst (-1), 1)) ∧ (decode prog_10_method_61_code 9 = .ok (.ireturn, 1)) ∧ (decode prog_10_method_61_code 10 = .ok (.aload_n 0, 1)) ∧ (decode prog_10_method_61_code 11 = .ok (.getfield 7, 3)) ∧ (decode prog_10_method_61_code 14 = .ok (.bipush 12, 2)) ∧ (decode prog_10_method_61_code 16 = .ok (.iload_n 1, 1)) ∧ (decode prog_10_method_61_code 17 = .ok (.iadd, 1)) ∧ (decode prog_10_method_61_code 18 = .ok (.iaload, 1)) ∧ (decode prog_10_method_61_code 19 = .ok (.istore_n 2, 1)) ∧ (decode prog_10_method_61_code 20 = .ok (.bipush (-4), 2)) ∧ (decode prog_10_method_61_code 22 = .ok (.istore_n 3, 1)) ∧ (decode prog_10_method_61_code 23 = .ok (.iconst 0, 1)) ∧ (decode prog_10_method_61_code 24 = .ok (.istore 4, 2)) ∧ (decode prog_10_method_61_code 26 = .ok (.iload 4, 2)) ∧ (decode prog_10_method_61_code 28 = .ok (.bipush 9, 2)) ∧ (decode prog_10_method_61_code 30 = .ok (.if_icmp .gt 56, 3)) ∧ (decode prog_10_method_61_code 33 = .ok (.iload_n 3, 1)) ∧ (decode prog_10_method_61_code 34 = .ok (.bipush (-4), 2)) ∧ (decode prog_10_method_61_code 36 = .ok (.if_icmp .ne 50, 3)) ∧ (decode prog_10_method_61_code 39 = .ok (.aload_n 0, 1)) := by
  have h : List.drop 0 prog_10_method_61_code.data.toList = 0x2a :: _ := rfl
  refine ⟨zq_k_n 42 h rfl (zq_o_42 _), ?_⟩
  replace h := zq_nx1 (q := 1) h rfl
  refine ⟨zq_k_n 27 h rfl (zq_o_27 _), ?_⟩
  replace h := zq_nx1 (q := 2) h rfl
  refine ⟨zq_k_u2 182 (fun z => .invokevirtual z) 213 h rfl (zq_o_182 _) (by decide +kernel), ?_⟩
  replace h := zq_nx3 (q := 5) h rfl
  refine ⟨zq_k_s2 154 (fun z => .ifCond .ne z) 5 h rfl (zq_o_154 _) (by decide +kernel), ?_⟩
  replace h := zq_nx3 (q := 8) h rfl
  refine ⟨zq_k_n 2 h rfl (zq_o_2 _), ?_⟩
  replace h := zq_nx1 (q := 9) h rfl
  refine ⟨zq_k_n 172 h rfl (zq_o_172 _), ?_⟩
  replace h := zq_nx1 (q := 10) h rfl
  refine ⟨zq_k_n 42 h rfl (zq_o_42 _), ?_⟩
  replace h := zq_nx1 (q := 11) h rfl
  refine ⟨zq_k_u2 180 (fun z => .getfield z) 7 h rfl (zq_o_180 _) (by decide +kernel), ?_⟩
  replace h := zq_nx3 (q := 14) h rfl
  refine ⟨zq_k_s1 16 (fun z => .bipush z) 12 h rfl (zq_o_16 _) (by decide +kernel), ?_⟩
  replace h := zq_nx2 (q := 16) h rfl
  refine ⟨zq_k_n 27 h rfl (zq_o_27 _), ?_⟩
  replace h := zq_nx1 (q := 17) h rfl
  refine ⟨zq_k_n 96 h rfl (zq_o_96 _), ?_⟩
  replace h := zq_nx1 (q := 18) h rfl
  refine ⟨zq_k_n 46 h rfl (zq_o_46 _), ?_⟩
  replace h := zq_nx1 (q := 19) h rfl
  refine ⟨zq_k_n 61 h rfl (zq_o_61 _), ?_⟩
  replace h := zq_nx1 (q := 20) h rfl
  refine ⟨zq_k_s1 16 (fun z => .bipush z) (-4) h rfl (zq_o_16 _) (by decide +kernel), ?_⟩
  replace h := zq_nx2 (q := 22) h rfl
  refine ⟨zq_k_n 62 h rfl (zq_o_62 _), ?_⟩
  replace h := zq_nx1 (q := 23) h rfl
  refine ⟨zq_k_n 3 h rfl (zq_o_3 _), ?_⟩
  replace h := zq_nx1 (q := 24) h rfl
  refine ⟨zq_k_u1 54 (fun z => .istore z) 4 h rfl (zq_o_54 _) (by decide +kernel), ?_⟩
  replace h := zq_nx2 (q := 26) h rfl
  refine ⟨zq_k_u1 21 (fun z => .iload z) 4 h rfl (zq_o_21 _) (by decide +kernel), ?_⟩
  replace h := zq_nx2 (q := 28) h rfl
  refine ⟨zq_k_s1 16 (fun z => .bipush z) 9 h rfl (zq_o_16 _) (by decide +kernel), ?_⟩
  replace h := zq_nx2 (q := 30) h rfl
  refine ⟨zq_k_s2 163 (fun z => .if_icmp .gt z) 56 h rfl (zq_o_163 _) (by decide +kernel), ?_⟩
  replace h := zq_nx3 (q := 33) h rfl
  refine ⟨zq_k_n 29 h rfl (zq_o_29 _), ?_⟩
  replace h := zq_nx1 (q := 34) h rfl
  refine ⟨zq_k_s1 16 (fun z => .bipush z) (-4) h rfl (zq_o_16 _) (by decide +kernel), ?_⟩
  replace h := zq_nx2 (q := 36) h rfl
  refine ⟨zq_k_s2 160 (fun z => .if_icmp .ne z) 50 h rfl (zq_o_160 _) (by decide +kernel), ?_⟩
  replace h := zq_nx3 (q := 39) h rfl
  exact zq_k_n 42 h rfl (zq_o_42 _)
theorem d_M_more_0 : decode prog_10_method_61_code 0 = .ok (.aload_n 0, 1) := dd_M_more_0.1
theorem d_M_more_1 : decode prog_10_method_61_code 1 = .ok (.iload_n 1, 1) := dd_M_more_0.2.1
theorem d_M_more_2 : decode prog_10_method_61_code 2 = .ok (.invokevirtual 213, 3) := dd_M_more_0.2.2.1
theorem d_M_more_5 : decode prog_10_method_61_code 5 = .ok (.ifCond .ne 5, 3) := dd_M_more_0.2.2.2.1
theorem d_M_more_8 : decode prog_10_method_61_code 8 = .ok (.iconst (-1), 1) := dd_M_more_0.2.2.2.2.1
theorem d_M_more_9 : decode prog_10_method_61_code 9 = .ok (.ireturn, 1) := dd_M_more_0.2.2.2.2.2.1
theorem d_M_more_10 : decode prog_10_method_61_code 10 = .ok (.aload_n 0, 1) := dd_M_more_0.2.2.2.2.2.2.1
theorem d_M_more_11 : decode prog_10_method_61_code 11 = .ok (.getfield 7, 3) := dd_M_more_0.2.2.2.2.2.2.2.1
theorem d_M_more_14 : decode prog_10_method_61_code 14 = .ok (.bipush 12, 2) := dd_M_more_0.2.2.2.2.2.2.2.2.1
theorem d_M_more_16 : decode prog_10_method_61_code 16 = .ok (.iload_n 1, 1) := dd_M_more_0.2.2.2.2.2.2.2.2.2.1
theorem d_M_more_17 : decode prog_10_method_61_code 17 = .ok (.iadd, 1) := dd_M_more_0.2.2.2.2.2.2.2.2.2.2.1
theorem d_M_more_18 : decode prog_10_method_61_code 18 = .ok (.iaload, 1) := dd_M_more_0.2.2.2.2.2.2.2.2.2.2.2.1
theorem d_M_more_19 : decode prog_10_method_61_code 19 = .ok (.istore_n 2, 1) := dd_M_more_0.2.2.2.2.2.2.2.2.2.2.2.2.1
theorem d_M_more_20 : decode prog_10_method_61_code 20 = .ok (.bipush (-4), 2) := dd_M_more_0.2.2.2.2.2.2.2.2.2.2.2.2.2.1
theorem d_M_more_22 : decode prog_10_method_61_code 22 = .ok (.istore_n 3, 1) := dd_M_more_0.2.2.2.2.2.2.2.2.2.2.2.2.2.2.1
theorem d_M_more_23 : decode prog_10_method_61_code 23 = .ok (.iconst 0, 1) := dd_M_more_0.2.2.2.2.2.2.2.2.2.2.2.2.2.2.2.1
theorem d_M_more_24 : decode prog_10_method_61_code 24 = .ok (.istore 4, 2) := dd_M_more_0.2.2.2.2.2.2.2.2.2.2.2.2.2.2.2.2.1
theorem d_M_more_26 : decode prog_10_method_61_code 26 = .ok (.iload 4, 2) := dd_M_more_0.2.2.2.2.2.2.2.2.2.2.2.2.2.2.2.2.2.1
theorem d_M_more_28 : decode prog_10_method_61_code 28 = .ok (.bipush 9, 2) := dd_M_more_0.2.2.2.2.2.2.2.2.2.2.2.2.2.2.2.2.2.2.1
theorem d_M_more_30 : decode prog_10_method_61_code 30 = .ok (.if_icmp .gt 56, 3) := dd_M_more_0.2.2.2.2.2.2.2.2.2.2.2.2.2.2.2.2.2.2.2.1
theorem d_M_more_33 : decode prog_10_method_61_code 33 = .ok (.iload_n 3, 1) := dd_M_more_0.2.2.2.2.2.2.2.2.2.2.2.2.2.2.2.2.2.2.2.2.1
theorem d_M_more_34 : decode prog_10_method_61_code 34 = .ok (.bipush (-4), 2) := dd_M_more_0.2.2.2.2.2.2.2.2.2.2.2.2.2.2.2.2.2.2.2.2.2.1
theorem d_M_more_36 : decode prog_10_method_61_code 36 = .ok (.if_icmp .ne 50, 3) := dd_M_more_0.2.2.2.2.2.2.2.2.2.2.2.2.2.2.2.2.2.2.2.2.2.2.1
theorem d_M_more_39 : decode prog_10_method_61_code 39 = .ok (.aload_n 0, 1) := dd_M_more_0.2.2.2.2.2.2.2.2.2.2.2.2.2.2.2.2.2.2.2.2.2.2.2
set_option maxRecDepth 100000 in
theorem dd_M_more_40 : (decode prog_10_method_61_code 40 = .ok (.getfield 7, 3)) ∧ (decode prog_10_method_61_code 43 = .ok (.bipush 12, 2)) ∧ (decode prog_10_method_61_code 45 = .ok (.iload_n 1, 1)) ∧ (decode prog_10_method_61_code 46 = .ok (.iadd, 1)) ∧ (decode prog_10_method_61_code 47 = .ok (.iload_n 2, 1)) ∧ (decode prog_10_method_61_code 48 = .ok (.iload 4, 2)) ∧ (decode prog_10_method_61_code 50 = .ok (.iadd, 1)) ∧ (decode prog_10_method_61_code 51 = .ok (.iastore, 1)) ∧ (decode prog_10_method_61_code 52 = .ok (.aload_n 0, 1)) ∧ (decode prog_10_method_61_code 53 = .ok (.aload_n 0, 1)) ∧ (decode prog_10_method_61_code 54 = .ok (.getfield 7, 3)) ∧ (decode prog_10_method_61_code 57 = .ok (.bipush 10, 2)) ∧ (decode prog_10_method_61_code 59 = .ok (.iaload, 1)) ∧ (decode prog_10_method_61_code 60 = .ok (.invokevirtual 260, 3)) ∧ (decode prog_10_method_61_code 63 = .ok (.aload_n 0, 1)) ∧ (decode prog_10_method_61_code 64 = .ok (.invokevirtual 263, 3)) ∧ (decode prog_10_method_61_code 67 = .ok (.ldc 246, 2)) ∧ (decode prog_10_method_61_code 69 = .ok (.if_icmp .ne 8, 3)) ∧ (decode prog_10_method_61_code 72 = .ok (.bipush (-4), 2)) ∧ (decode prog_10_method_61_code 74 = .ok (.goto 5, 3)) ∧ (decode prog_10_method_61_code 77 = .ok (.iload 4, 2)) ∧ (decode prog_10_method_61_code 79 = .ok (.istore_n 3, 1)) ∧ (decode prog_10_method_61_code 80 = .ok (.iinc 4 1, 3)) ∧ (decode prog_10_method_61_code 83 = .ok (.goto (-57), 3)) := by
  have h : List.drop 40 prog_10_method_61_code.data.toList = 0xb4 :: _ := rfl
  refine ⟨zq_k_u2 180 (fun z => .getfield z) 7 h rfl (zq_o_180 _) (by decide +kernel), ?_⟩
  replace h := zq_nx3 (q := 43) h rfl
  refine ⟨zq_k_s1 16 (fun z => .bipush z) 12 h rfl (zq_o_16 _) (by decide +kernel), ?_⟩
  replace h := zq_nx2 (q := 45) h rfl
  refine ⟨zq_k_n 27 h rfl (zq_o_27 _), ?_⟩
  replace h := zq_nx1 (q := 46) h rfl
  refine ⟨zq_k_n 96 h rfl (zq_o_96 _), ?_⟩
  replace h := zq_nx1 (q := 47) h rfl
  refine ⟨zq_k_n 28 h rfl (zq_o_28 _), ?_⟩
  replace h := zq_nx1 (q := 48) h rfl
  refine ⟨zq_k_u1 21 (fun z => .iload z) 4 h rfl (zq_o_21 _) (by decide +kernel), ?_⟩
  replace h := zq_nx2 (q := 50) h rfl
  refine ⟨zq_k_n 96 h rfl (zq_o_96 _), ?_⟩
  replace h := zq_nx1 (q := 51) h rfl
  refine ⟨zq_k_n 79 h rfl (zq_o_79 _), ?_⟩
  replace h := zq_nx1 (q := 52) h rfl
  refine ⟨zq_k_n 42 h rfl (zq_o_42 _), ?_⟩
  replace h := zq_nx1 (q := 53) h rfl
  refine ⟨zq_k_n 42 h rfl (zq_o_42 _), ?_⟩
  replace h := zq_nx1 (q := 54) h rfl
  refine ⟨zq_k_u2 180 (fun z => .getfield z) 7 h rfl (zq_o_180 _) (by decide +kernel), ?_⟩
  replace h := zq_nx3 (q := 57) h rfl
  refine ⟨zq_k_s1 16 (fun z => .bipush z) 10 h rfl (zq_o_16 _) (by decide +kernel), ?_⟩
  replace h := zq_nx2 (q := 59) h rfl
  refine ⟨zq_k_n 46 h rfl (zq_o_46 _), ?_⟩
  replace h := zq_nx1 (q := 60) h rfl
  refine ⟨zq_k_u2 182 (fun z => .invokevirtual z) 260 h rfl (zq_o_182 _) (by decide +kernel), ?_⟩
  replace h := zq_nx3 (q := 63) h rfl
  refine ⟨zq_k_n 42 h rfl (zq_o_42 _), ?_⟩
  replace h := zq_nx1 (q := 64) h rfl
  refine ⟨zq_k_u2 182 (fun z => .invokevirtual z) 263 h rfl (zq_o_182 _) (by decide +kernel), ?_⟩
  replace h := zq_nx3 (q := 67) h rfl
  refine ⟨zq_k_u1 18 (fun z => .ldc z) 246 h rfl (zq_o_18 _) (by decide +kernel), ?_⟩
  replace h := zq_nx2 (q := 69) h rfl
  refine ⟨zq_k_s2 160 (fun z => .if_icmp .ne z) 8 h rfl (zq_o_160 _) (by decide +kernel), ?_⟩
  replace h := zq_nx3 (q := 72) h rfl
  refine ⟨zq_k_s1 16 (fun z => .bipush z) (-4) h rfl (zq_o_16 _) (by decide +kernel), ?_⟩
  replace h := zq_nx2 (q := 74) h rfl
  refine ⟨zq_k_s2 167 (fun z => .goto z) 5 h rfl (zq_o_167 _) (by decide +kernel), ?_⟩
  replace h := zq_nx3 (q := 77) h rfl
  refine ⟨zq_k_u1 21 (fun z => .iload z) 4 h rfl (zq_o_21 _) (by decide +kernel), ?_⟩
  replace h := zq_nx2 (q := 79) h rfl
  refine ⟨zq_k_n 62 h rfl (zq_o_62 _), ?_⟩
  replace h := zq_nx1 (q := 80) h rfl
  refine ⟨zq_k_iinc 4 1 h rfl (zq_o_132 _) (by decide +kernel) (by decide +kernel), ?_⟩
  replace h := zq_nx3 (q := 83) h rfl
  exact zq_k_s2 167 (fun z => .goto z) (-57) h rfl (zq_o_167 _) (by decide +kernel)
theorem d_M_more_40 : decode prog_10_method_61_code 40 = .ok (.getfield 7, 3) := dd_M_more_40.1
theorem d_M_more_43 : decode prog_10_method_61_code 43 = .ok (.bipush 12, 2) := dd_M_more_40.2.1
theorem d_M_more_45 : decode prog_10_method_61_code 45 = .ok (.iload_n 1, 1) := dd_M_more_40.2.2.1
theorem d_M_more_46 : decode prog_10_method_61_code 46 = .ok (.iadd, 1) := dd_M_more_40.2.2.2.1
theorem d_M_more_47 : decode prog_10_method_61_code 47 = .ok (.iload_n 2, 1) := dd_M_more_40.2.2.2.2.1
theorem d_M_more_48 : decode prog_10_method_61_code 48 = .ok (.iload 4, 2) := dd_M_more_40.2.2.2.2.2.1
theorem d_M_more_50 : decode prog_10_method_61_code 50 = .ok (.iadd, 1) := dd_M_more_40.2.2.2.2.2.2.1
theorem d_M_more_51 : decode prog_10_method_61_code 51 = .ok (.iastore, 1) := dd_M_more_40.2.2.2.2.2.2.2.1
theorem d_M_more_52 : decode prog_10_method_61_code 52 = .ok (.aload_n 0, 1) := dd_M_more_40.2.2.2.2.2.2.2.2.1
theorem d_M_more_53 : decode prog_10_method_61_code 53 = .ok (.aload_n 0, 1) := dd_M_more_40.2.2.2.2.2.2.2.2.2.1
theorem d_M_more_54 : decode prog_10_method_61_code 54 = .ok (.getfield 7, 3) := dd_M_more_40.2.2.2.2.2.2.2.2.2.2.1
theorem d_M_more_57 : decode prog_10_method_61_code 57 = .ok (.bipush 10, 2) := dd_M_more_40.2.2.2.2.2.2.2.2.2.2.2.1
theorem d_M_more_59 : decode prog_10_method_61_code 59 = .ok (.iaload, 1) := dd_M_more_40.2.2.2.2.2.2.2.2.2.2.2.2.1
theorem d_M_more_60 : decode prog_10_method_61_code 60 = .ok (.invokevirtual 260, 3) := dd_M_more_40.2.2.2.2.2.2.2.2.2.2.2.2.2.1
theorem d_M_more_63 : decode prog_10_method_61_code 63 = .ok (.aload_n 0, 1) := dd_M_more_40.2.2.2.2.2.2.2.2.2.2.2.2.2.2.1
theorem d_M_more_64 : decode prog_10_method_61_code 64 = .ok (.invokevirtual 263, 3) := dd_M_more_40.2.2.2.2.2.2.2.2.2.2.2.2.2.2.2.1
theorem d_M_more_67 : decode prog_10_method_61_code 67 = .ok (.ldc 246, 2) := dd_M_more_40.2.2.2.2.2.2.2.2.2.2.2.2.2.2.2.2.1
theorem d_M_more_69 : decode prog_10_method_61_code 69 = .ok (.if_icmp .ne 8, 3) := dd_M_more_40.2.2.2.2.2.2.2.2.2.2.2.2.2.2.2.2.2.1
theorem d_M_more_72 : decode prog_10_method_61_code 72 = .ok (.bipush (-4), 2) := dd_M_more_40.2.2.2.2.2.2.2.2.2.2.2.2.2.2.2.2.2.2.1
theorem d_M_more_74 : decode prog_10_method_61_code 74 = .ok (.goto 5, 3) := dd_M_more_40.2.2.2.2.2.2.2.2.2.2.2.2.2.2.2.2.2.2.2.1
theorem d_M_more_77 : decode prog_10_method_61_code 77 = .ok (.iload 4, 2) := dd_M_more_40.2.2.2.2.2.2.2.2.2.2.2.2.2.2.2.2.2.2.2.2.1
theorem d_M_more_79 : decode prog_10_method_61_code 79 = .ok (.istore_n 3, 1) := dd_M_more_40.2.2.2.2.2.2.2.2.2.2.2.2.2.2.2.2.2.2.2.2.2.1
theorem d_M_more_80 : decode prog_10_method_61_code 80 = .ok (.iinc 4 1, 3) := dd_M_more_40.2.2.2.2.2.2.2.2.2.2.2.2.2.2.2.2.2.2.2.2.2.2.1
theorem d_M_more_83 : decode prog_10_method_61_code 83 = .ok (.goto (-57), 3) := dd_M_more_40.2.2.2.2.2.2.2.2.2.2.2.2.2.2.2.2.2.2.2.2.2.2.2
set_option maxRecDepth 100000 in
theorem dd_M_more_86 : (decode prog_10_method_61_code 86 = .ok (.aload_n 0, 1)) ∧ (decode prog_10_method_61_code 87 = .ok (.getfield 7, 3)) ∧ (decode prog_10_method_61_code 90 = .ok (.bipush 12, 2)) ∧ (decode prog_10_method_61_code 92 = .ok (.iload_n 1, 1)) ∧ (decode prog_10_method_61_code 93 = .ok (.iadd, 1)) ∧ (decode prog_10_method_61_code 94 = .ok (.iload_n 2, 1)) ∧ (decode prog_10_method_61_code 95 = .ok (.iastore, 1)) ∧ (decode prog_10_method_61_code 96 = .ok (.iload_n 3, 1)) ∧ (decode prog_10_method_61_code 97 = .ok (.ireturn, 1)) := by
  have h : List.drop 86 prog_10_method_61_code.data.toList = 0x2a :: _ := rfl
  refine ⟨zq_k_n 42 h rfl (zq_o_42 _), ?_⟩
  replace h := zq_nx1 (q := 87) h rfl
  refine ⟨zq_k_u2 180 (fun z => .getfield z) 7 h rfl (zq_o_180 _) (by decide +kernel), ?_⟩
  replace h := zq_nx3 (q := 90) h rfl
  refine ⟨zq_k_s1 16 (fun z => .bipush z) 12 h rfl (zq_o_16 _) (by decide +kernel), ?_⟩
  replace h := zq_nx2 (q := 92) h rfl
  refine ⟨zq_k_n 27 h rfl (zq_o_27 _), ?_⟩
  replace h := zq_nx1 (q := 93) h rfl
  refine ⟨zq_k_n 96 h rfl (zq_o_96 _), ?_⟩
  replace h := zq_nx1 (q := 94) h rfl
  refine ⟨zq_k_n 28 h rfl (zq_o_28 _), ?_⟩
  replace h := zq_nx1 (q := 95) h rfl
  refine ⟨zq_k_n 79 h rfl (zq_o_79 _), ?_⟩
  replace h := zq_nx1 (q := 96) h rfl
  refine ⟨zq_k_n 29 h rfl (zq_o_29 _), ?_⟩
  replace h := zq_nx1 (q := 97) h rfl
  exact zq_k_n 172 h rfl (zq_o_172 _)
theorem d_M_more_86 : decode prog_10_method_61_code 86 = .ok (.aload_n 0, 1) := dd_M_more_86.1
theorem d_M_more_87 : decode prog_10_method_61_code 87 = .ok (.getfield 7, 3) := dd_M_more_86.2.1
theorem d_M_more_90 : decode prog_10_method_61_code 90 = .ok (.bipush 12, 2) := dd_M_more_86.2.2.1
theorem d_M_more_92 : decode prog_10_method_61_code 92 = .ok (.iload_n 1, 1) := dd_M_more_86.2.2.2.1
theorem d_M_more_93 : decode prog_10_method_61_code 93 = .ok (.iadd, 1) := dd_M_more_86.2.2.2.2.1
theorem d_M_more_94 : decode prog_10_method_61_code 94 = .ok (.iload_n 2, 1) := dd_M_more_86.2.2.2.2.2.1
theorem d_M_more_95 : decode prog_10_method_61_code 95 = .ok (.iastore, 1) := dd_M_more_86.2.2.2.2.2.2.1
theorem d_M_more_96 : decode prog_10_method_61_code 96 = .ok (.iload_n 3, 1) := dd_M_more_86.2.2.2.2.2.2.2.1
theorem d_M_more_97 : decode prog_10_method_61_code 97 = .ok (.ireturn, 1) := dd_M_more_86.2.2.2.2.2.2.2.2
def f_M_more_86  (b0 : Nat) (b1 : Int32) (b2 : Int32) (b3 : Int32) (h : mH) : Option (Int32 × mH) :=
  bd1 (gR h b0 8 0) fun x31 =>
  bd1 (sI h 0 x31 ((12 : Int32) + b1) b2) fun h33 =>
  some (b3, h33)
set_option maxRecDepth 20000 in
theorem t_M_more_86 {sc : Nat × (Nat → Int32)}  (b0 : Nat) (b1 : Int32) (b2 : Int32) (b3 : Int32) (h : mH) (r : Int32) (h' : mH) (hf : f_M_more_86  b0 b1 b2 b3 h = some (r, h')) : G sc y_M_more prog_10_method_61_code 5 (some .int) 6 150 86 [(0, .ref b0), (1, .int b1), (2, .int b2), (3, .int b3)] [] h (some (.int r)) h' := by
  unfold f_M_more_86 at hf
  refine g_aload_n (pc := 86) 0 d_M_more_86 rfl rfl ?_
  obtain ⟨x31, e32, hf⟩ := bd1_e hf
  refine g_get (pc := 87) (ci := 8) (kk := 0) d_M_more_87 rfl in_M (by decide) wd_938 (gR_spec e32) ?_
  refine g_bipush (pc := 90) (12 : Int32) d_M_more_90 (by decide) ?_
  refine g_iload_n (pc := 92) 1 d_M_more_92 rfl rfl ?_
  refine g_iadd (pc := 93) d_M_more_93 ?_
  refine g_iload_n (pc := 94) 2 d_M_more_94 rfl rfl ?_
  obtain ⟨h33, e34, hf⟩ := bd1_e hf
  refine g_iast (pc := 95) d_M_more_95 e34 ?_
  refine g_iload_n (pc := 96) 3 d_M_more_96 rfl rfl ?_
  obtain ⟨rfl, rfl⟩ := ret2 hf
  exact g_iret (pc := 97) rfl d_M_more_97
def f_M_more_79 (rec26 : Nat → Int32 → Int32 → Int32 → Int32 → mH → Option (Int32 × mH)) (b0 : Nat) (b1 : Int32) (b2 : Int32) (b4 : Int32) (s0 : Int32) (h : mH) : Option (Int32 × mH) :=
  rec26 b0 b1 b2 s0 (b4 + (1 : Int32)) h
set_option maxRecDepth 20000 in
theorem t_M_more_79 {sc : Nat × (Nat → Int32)} (rec26 : Nat → Int32 → Int32 → Int32 → Int32 → mH → Option (Int32 × mH)) (hrec26 : ∀ (b0 : Nat) (b1 : Int32) (b2 : Int32) (b3 : Int32) (b4 : Int32) (h : mH) (r : Int32) (h' : mH), rec26 b0 b1 b2 b3 b4 h = some (r, h') → G sc y_M_more prog_10_method_61_code 5 (some .int) 6 150 26 [(0, .ref b0), (1, .int b1), (2, .int b2), (3, .int b3), (4, .int b4)] [] h (some (.int r)) h') (b0 : Nat) (b1 : Int32) (b2 : Int32) (b4 : Int32) (s0 : Int32) (h : mH) (r : Int32) (h' : mH) (hf : f_M_more_79 rec26 b0 b1 b2 b4 s0 h = some (r, h')) : G sc y_M_more prog_10_method_61_code 5 (some .int) 6 150 79 [(0, .ref b0), (1, .int b1), (2, .int b2), (4, .int b4)] [.int s0] h (some (.int r)) h' := by
  unfold f_M_more_79 at hf
  refine g_istore_n (pc := 79) [(3, .int s0), (0, .ref b0), (1, .int b1), (2, .int b2), (4, .int b4)] d_M_more_79 rfl (Nat.le_of_ble_eq_true rfl) rfl ?_
  refine g_iinc (pc := 80) 4 (b4 + (1 : Int32)) [(4, .int (b4 + (1 : Int32))), (3, .int s0), (0, .ref b0), (1, .int b1), (2, .int b2)] d_M_more_80 rfl rfl (Nat.le_of_ble_eq_true rfl) rfl ?_
  refine g_goto (pc := 83) 26 d_M_more_83 (by decide) ?_
  refine g_lv [2, 3, 4, 1, 0] rfl ?_
  exact hrec26 _ _ _ _ _ _ _ _  hf
def f_M_more_26b (rec26 : Nat → Int32 → Int32 → Int32 → Int32 → mH → Option (Int32 × mH)) (b0 : Nat) (b1 : Int32) (b2 : Int32) (b3 : Int32) (b4 : Int32) (h : mH) : Option (Int32 × mH) :=
  if (9 : Int32) < b4 then
    f_M_more_86  b0 b1 b2 b3 h
  else
    if b3 = ((-4) : Int32) then
      bd1 (gR h b0 8 0) fun x11 =>
      bd1 (sI h 0 x11 ((12 : Int32) + b1) (b2 + b4)) fun h13 =>
      bd1 (gR h13 b0 8 0) fun x15 =>
      bd1 (aI h13 0 x15 (10 : Int32)) fun x17 =>
      bd1 (kC h13 b0 8) fun _ =>
      bd1 (f_M_startsRota b0 x17 h13) fun h21 =>
      bd1 (kC h21 b0 8) fun _ =>
      bd2 (f_M_findRota b0 h21) fun x27 h25 =>
      if x27 = (1000000 : Int32) then
        f_M_more_79 rec26 b0 b1 b2 b4 ((-4) : Int32) h25
      else
        f_M_more_79 rec26 b0 b1 b2 b4 b4 h25
    else
      f_M_more_86  b0 b1 b2 b3 h
set_option maxRecDepth 20000 in
theorem t_M_more_26b {sc : Nat × (Nat → Int32)} (rec26 : Nat → Int32 → Int32 → Int32 → Int32 → mH → Option (Int32 × mH)) (hrec26 : ∀ (b0 : Nat) (b1 : Int32) (b2 : Int32) (b3 : Int32) (b4 : Int32) (h : mH) (r : Int32) (h' : mH), rec26 b0 b1 b2 b3 b4 h = some (r, h') → G sc y_M_more prog_10_method_61_code 5 (some .int) 6 150 26 [(0, .ref b0), (1, .int b1), (2, .int b2), (3, .int b3), (4, .int b4)] [] h (some (.int r)) h') (b0 : Nat) (b1 : Int32) (b2 : Int32) (b3 : Int32) (b4 : Int32) (h : mH) (r : Int32) (h' : mH) (hf : f_M_more_26b rec26 b0 b1 b2 b3 b4 h = some (r, h')) : G sc y_M_more prog_10_method_61_code 5 (some .int) 6 150 26 [(0, .ref b0), (1, .int b1), (2, .int b2), (3, .int b3), (4, .int b4)] [] h (some (.int r)) h' := by
  unfold f_M_more_26b at hf
  refine g_iload (pc := 26) 4 d_M_more_26 rfl ?_
  refine g_bipush (pc := 28) (9 : Int32) d_M_more_28 (by decide) ?_
  refine g_icmpgt (pc := 30) 86 d_M_more_30 (by decide) (fun c30 => ?_) (fun c30 => ?_)
  · replace hf := (if_pos c30).symm.trans hf
    refine g_lv [0, 1, 2, 3] rfl ?_
    exact t_M_more_86  _ _ _ _ _ _ _  hf
  · replace hf := (if_neg c30).symm.trans hf
    refine g_iload_n (pc := 33) 3 d_M_more_33 rfl rfl ?_
    refine g_bipush (pc := 34) ((-4) : Int32) d_M_more_34 (by decide) ?_
    refine g_icmpne (pc := 36) 86 d_M_more_36 (by decide) (fun c29 => ?_) (fun c29 => ?_)
    · replace hf := (if_neg c29).symm.trans hf
      refine g_lv [0, 1, 2, 3] rfl ?_
      exact t_M_more_86  _ _ _ _ _ _ _  hf
    · replace hf := (if_pos c29).symm.trans hf
      refine g_aload_n (pc := 39) 0 d_M_more_39 rfl rfl ?_
      obtain ⟨x11, e12, hf⟩ := bd1_e hf
      refine g_get (pc := 40) (ci := 8) (kk := 0) d_M_more_40 rfl in_M (by decide) wd_938 (gR_spec e12) ?_
      refine g_bipush (pc := 43) (12 : Int32) d_M_more_43 (by decide) ?_
      refine g_iload_n (pc := 45) 1 d_M_more_45 rfl rfl ?_
      refine g_iadd (pc := 46) d_M_more_46 ?_
      refine g_iload_n (pc := 47) 2 d_M_more_47 rfl rfl ?_
      refine g_iload (pc := 48) 4 d_M_more_48 rfl ?_
      refine g_iadd (pc := 50) d_M_more_50 ?_
      obtain ⟨h13, e14, hf⟩ := bd1_e hf
      refine g_iast (pc := 51) d_M_more_51 e14 ?_
      refine g_aload_n (pc := 52) 0 d_M_more_52 rfl rfl ?_
      refine g_aload_n (pc := 53) 0 d_M_more_53 rfl rfl ?_
      obtain ⟨x15, e16, hf⟩ := bd1_e hf
      refine g_get (pc := 54) (ci := 8) (kk := 0) d_M_more_54 rfl in_M (by decide) wd_938 (gR_spec e16) ?_
      refine g_bipush (pc := 57) (10 : Int32) d_M_more_57 (by decide) ?_
      obtain ⟨x17, e18, hf⟩ := bd1_e hf
      refine g_iald (pc := 59) d_M_more_59 e18 ?_
      obtain ⟨u20, e19, hf⟩ := bd1_e hf
      obtain ⟨h21, e22, hf⟩ := bd1_e hf
      refine g_callV (pc := 60) (ci := 8) [.int x17] (site_of si_M_startsRota (by decide) (by decide)) wd_1257 wd_1259 wp_57 d_M_more_60 rfl e19 (Nat.le_of_ble_eq_true rfl) (fun z => absurd z (by decide)) (fun z => absurd z (by decide)) (fun z => absurd z (by decide)) (c_M_startsRota e22) rfl ?_
      refine g_st [] rfl ?_
      refine g_aload_n (pc := 63) 0 d_M_more_63 rfl rfl ?_
      obtain ⟨u24, e23, hf⟩ := bd1_e hf
      obtain ⟨x27, h25, e26, hf⟩ := bd2_e hf
      refine g_callV (pc := 64) (ci := 8) [] (site_of si_M_findRota (by decide) (by decide)) wd_1261 wd_1263 wp_58 d_M_more_64 rfl e23 (Nat.le_of_ble_eq_true rfl) (fun z => absurd z (by decide)) (fun z => absurd z (by decide)) (fun z => absurd z (by decide)) (c_M_findRota e26) rfl ?_
      refine g_st [.int x27] rfl ?_
      refine g_ldc (pc := 67) (1000000 : Int32) d_M_more_67 wd_1272 ?_
      refine g_icmpne (pc := 69) 77 d_M_more_69 (by decide) (fun c28 => ?_) (fun c28 => ?_)
      · replace hf := (if_neg c28).symm.trans hf
        refine g_iload (pc := 77) 4 d_M_more_77 rfl ?_
        refine g_lv [0, 1, 2, 4] rfl ?_
        exact t_M_more_79 rec26 hrec26 _ _ _ _ _ _ _ _  hf
      · replace hf := (if_pos c28).symm.trans hf
        refine g_bipush (pc := 72) ((-4) : Int32) d_M_more_72 (by decide) ?_
        refine g_goto (pc := 74) 79 d_M_more_74 (by decide) ?_
        refine g_lv [0, 1, 2, 4] rfl ?_
        exact t_M_more_79 rec26 hrec26 _ _ _ _ _ _ _ _  hf
def f_M_more_26  : Nat → Nat → Int32 → Int32 → Int32 → Int32 → mH → Option (Int32 × mH)
  | 0 => fun _ _ _ _ _ _ => none
  | n + 1 => f_M_more_26b  (f_M_more_26  n)
theorem t_M_more_26 {sc : Nat × (Nat → Int32)}  : ∀ (n : Nat) (b0 : Nat) (b1 : Int32) (b2 : Int32) (b3 : Int32) (b4 : Int32) (h : mH) (r : Int32) (h' : mH) (hf : f_M_more_26  n b0 b1 b2 b3 b4 h = some (r, h')), G sc y_M_more prog_10_method_61_code 5 (some .int) 6 150 26 [(0, .ref b0), (1, .int b1), (2, .int b2), (3, .int b3), (4, .int b4)] [] h (some (.int r)) h'
  | 0, _, _, _, _, _, _, _, _, hf => by cases hf
  | n + 1, _, _, _, _, _, _, _, _, hf => t_M_more_26b  (f_M_more_26  n) (t_M_more_26  n) _ _ _ _ _ _ _ _ hf
def f_M_more_0  (a0 : Nat) (a1 : Int32) (h : mH) : Option (Int32 × mH) :=
  bd1 (kC h a0 8) fun _ =>
  bd2 (f_M_isOne a0 a1 h) fun x5 h3 =>
  if x5 = 0 then
    some (((-1) : Int32), h3)
  else
    bd1 (gR h3 a0 8 0) fun x6 =>
    bd1 (aI h3 0 x6 ((12 : Int32) + a1)) fun x8 =>
    f_M_more_26  FU a0 a1 x8 ((-4) : Int32) (0 : Int32) h3
set_option maxRecDepth 20000 in
theorem t_M_more_0 {sc : Nat × (Nat → Int32)}  (a0 : Nat) (a1 : Int32) (h : mH) (r : Int32) (h' : mH) (hf : f_M_more_0  a0 a1 h = some (r, h')) : G sc y_M_more prog_10_method_61_code 5 (some .int) 6 150 0 [(0, .ref a0), (1, .int a1)] [] h (some (.int r)) h' := by
  unfold f_M_more_0 at hf
  refine g_aload_n (pc := 0) 0 d_M_more_0 rfl rfl ?_
  refine g_iload_n (pc := 1) 1 d_M_more_1 rfl rfl ?_
  obtain ⟨u2, e1, hf⟩ := bd1_e hf
  obtain ⟨x5, h3, e4, hf⟩ := bd2_e hf
  refine g_callV (pc := 2) (ci := 8) [.int a1] (site_of si_M_isOne (by decide) (by decide)) wd_1160 wd_1162 wp_49 d_M_more_2 rfl e1 (Nat.le_of_ble_eq_true rfl) (fun z => absurd z (by decide)) (fun z => absurd z (by decide)) (fun z => absurd z (by decide)) (c_M_isOne e4) rfl ?_
  refine g_st [.int x5] rfl ?_
  refine g_ifne (pc := 5) 10 d_M_more_5 (by decide) (fun c10 => ?_) (fun c10 => ?_)
  · replace hf := (if_neg c10).symm.trans hf
    refine g_aload_n (pc := 10) 0 d_M_more_10 rfl rfl ?_
    obtain ⟨x6, e7, hf⟩ := bd1_e hf
    refine g_get (pc := 11) (ci := 8) (kk := 0) d_M_more_11 rfl in_M (by decide) wd_938 (gR_spec e7) ?_
    refine g_bipush (pc := 14) (12 : Int32) d_M_more_14 (by decide) ?_
    refine g_iload_n (pc := 16) 1 d_M_more_16 rfl rfl ?_
    refine g_iadd (pc := 17) d_M_more_17 ?_
    obtain ⟨x8, e9, hf⟩ := bd1_e hf
    refine g_iald (pc := 18) d_M_more_18 e9 ?_
    refine g_istore_n (pc := 19) [(2, .int x8), (0, .ref a0), (1, .int a1)] d_M_more_19 rfl (Nat.le_of_ble_eq_true rfl) rfl ?_
    refine g_bipush (pc := 20) ((-4) : Int32) d_M_more_20 (by decide) ?_
    refine g_istore_n (pc := 22) [(3, .int ((-4) : Int32)), (2, .int x8), (0, .ref a0), (1, .int a1)] d_M_more_22 rfl (Nat.le_of_ble_eq_true rfl) rfl ?_
    refine g_iconst (pc := 23) (0 : Int32) d_M_more_23 (by decide) ?_
    refine g_istore (pc := 24) [(4, .int (0 : Int32)), (3, .int ((-4) : Int32)), (2, .int x8), (0, .ref a0), (1, .int a1)] d_M_more_24 (Nat.le_of_ble_eq_true rfl) rfl ?_
    refine g_lv [3, 4, 2, 1, 0] rfl ?_
    exact t_M_more_26  FU _ _ _ _ _ _ _ _  hf
  · replace hf := (if_pos c10).symm.trans hf
    refine g_iconst (pc := 8) ((-1) : Int32) d_M_more_8 (by decide) ?_
    obtain ⟨rfl, rfl⟩ := ret2 hf
    exact g_iret (pc := 9) rfl d_M_more_9
def f_M_more (a0 : Nat) (a1 : Int32) (h : mH) : Option (Int32 × mH) := f_M_more_0 a0 a1 h
theorem c_M_more {sc : Nat × (Nat → Int32)} {a0 : Nat} {a1 : Int32} {h : mH} {r : Int32} {h' : mH} (hf : f_M_more a0 a1 h = some (r, h')) : MM sc y_M_more prog_10_method_61_code 5 (some .int) 6 150 [.ref a0, .int a1] h (some (.int r)) h' :=
  mm_of_G (by decide) (Nat.le_of_ble_eq_true rfl) (t_M_more_0 _ _ _ _ _ hf)
/-! M together (I)I -/
set_option maxRecDepth 100000 in
theorem dd_M_together_0 : (decode prog_10_method_62_code 0 = .ok (.iload_n 1, 1)) ∧ (decode prog_10_method_62_code 1 = .ok (.i2l, 1)) ∧ (decode prog_10_method_62_code 2 = .ok (.lconst 0, 1)) ∧ (decode prog_10_method_62_code 3 = .ok (.lconst 1, 1)) ∧ (decode prog_10_method_62_code 4 = .ok (.invokestatic 114, 3)) ∧ (decode prog_10_method_62_code 7 = .ok (.ifCond .ne 5, 3)) ∧ (decode prog_10_method_62_code 10 = .ok (.iconst (-1), 1)) ∧ (decode prog_10_method_62_code 11 = .ok (.ireturn, 1)) ∧ (decode prog_10_method_62_code 12 = .ok (.iconst (-1), 1)) ∧ (decode prog_10_method_62_code 13 = .ok (.istore_n 2, 1)) ∧ (decode prog_10_method_62_code 14 = .ok (.iconst 0, 1)) ∧ (decode prog_10_method_62_code 15 = .ok (.istore_n 3, 1)) ∧ (decode prog_10_method_62_code 16 = .ok (.iconst 0, 1)) ∧ (decode prog_10_method_62_code 17 = .ok (.istore 4, 2)) ∧ (decode prog_10_method_62_code 19 = .ok (.iload 4, 2)) ∧ (decode prog_10_method_62_code 21 = .ok (.iconst 1, 1)) ∧ (decode prog_10_method_62_code 22 = .ok (.aload_n 0, 1)) ∧ (decode prog_10_method_62_code 23 = .ok (.getfield 106, 3)) ∧ (decode prog_10_method_62_code 26 = .ok (.ishl, 1)) ∧ (decode prog_10_method_62_code 27 = .ok (.if_icmp .ge 82, 3)) ∧ (decode prog_10_method_62_code 30 = .ok (.aload_n 0, 1)) ∧ (decode prog_10_method_62_code 31 = .ok (.iload 4, 2)) ∧ (decode prog_10_method_62_code 33 = .ok (.invokevirtual 260, 3)) ∧ (decode prog_10_method_62_code 36 = .ok (.iload 4, 2)) := by
  have h : List.drop 0 prog_10_method_62_code.data.toList = 0x1b :: _ := rfl
  refine ⟨zq_k_n 27 h rfl (zq_o_27 _), ?_⟩
  replace h := zq_nx1 (q := 1) h rfl
  refine ⟨zq_k_n 133 h rfl (zq_o_133 _), ?_⟩
  replace h := zq_nx1 (q := 2) h rfl
  refine ⟨zq_k_n 9 h rfl (zq_o_9 _), ?_⟩
  replace h := zq_nx1 (q := 3) h rfl
  refine ⟨zq_k_n 10 h rfl (zq_o_10 _), ?_⟩
  replace h := zq_nx1 (q := 4) h rfl
  refine ⟨zq_k_u2 184 (fun z => .invokestatic z) 114 h rfl (zq_o_184 _) (by decide +kernel), ?_⟩
  replace h := zq_nx3 (q := 7) h rfl
  refine ⟨zq_k_s2 154 (fun z => .ifCond .ne z) 5 h rfl (zq_o_154 _) (by decide +kernel), ?_⟩
  replace h := zq_nx3 (q := 10) h rfl
  refine ⟨zq_k_n 2 h rfl (zq_o_2 _), ?_⟩
  replace h := zq_nx1 (q := 11) h rfl
  refine ⟨zq_k_n 172 h rfl (zq_o_172 _), ?_⟩
  replace h := zq_nx1 (q := 12) h rfl
  refine ⟨zq_k_n 2 h rfl (zq_o_2 _), ?_⟩
  replace h := zq_nx1 (q := 13) h rfl
  refine ⟨zq_k_n 61 h rfl (zq_o_61 _), ?_⟩
  replace h := zq_nx1 (q := 14) h rfl
  refine ⟨zq_k_n 3 h rfl (zq_o_3 _), ?_⟩
  replace h := zq_nx1 (q := 15) h rfl
  refine ⟨zq_k_n 62 h rfl (zq_o_62 _), ?_⟩
  replace h := zq_nx1 (q := 16) h rfl
  refine ⟨zq_k_n 3 h rfl (zq_o_3 _), ?_⟩
  replace h := zq_nx1 (q := 17) h rfl
  refine ⟨zq_k_u1 54 (fun z => .istore z) 4 h rfl (zq_o_54 _) (by decide +kernel), ?_⟩
  replace h := zq_nx2 (q := 19) h rfl
  refine ⟨zq_k_u1 21 (fun z => .iload z) 4 h rfl (zq_o_21 _) (by decide +kernel), ?_⟩
  replace h := zq_nx2 (q := 21) h rfl
  refine ⟨zq_k_n 4 h rfl (zq_o_4 _), ?_⟩
  replace h := zq_nx1 (q := 22) h rfl
  refine ⟨zq_k_n 42 h rfl (zq_o_42 _), ?_⟩
  replace h := zq_nx1 (q := 23) h rfl
  refine ⟨zq_k_u2 180 (fun z => .getfield z) 106 h rfl (zq_o_180 _) (by decide +kernel), ?_⟩
  replace h := zq_nx3 (q := 26) h rfl
  refine ⟨zq_k_n 120 h rfl (zq_o_120 _), ?_⟩
  replace h := zq_nx1 (q := 27) h rfl
  refine ⟨zq_k_s2 162 (fun z => .if_icmp .ge z) 82 h rfl (zq_o_162 _) (by decide +kernel), ?_⟩
  replace h := zq_nx3 (q := 30) h rfl
  refine ⟨zq_k_n 42 h rfl (zq_o_42 _), ?_⟩
  replace h := zq_nx1 (q := 31) h rfl
  refine ⟨zq_k_u1 21 (fun z => .iload z) 4 h rfl (zq_o_21 _) (by decide +kernel), ?_⟩
  replace h := zq_nx2 (q := 33) h rfl
  refine ⟨zq_k_u2 182 (fun z => .invokevirtual z) 260 h rfl (zq_o_182 _) (by decide +kernel), ?_⟩
  replace h := zq_nx3 (q := 36) h rfl
  exact zq_k_u1 21 (fun z => .iload z) 4 h rfl (zq_o_21 _) (by decide +kernel)
theorem d_M_together_0 : decode prog_10_method_62_code 0 = .ok (.iload_n 1, 1) := dd_M_together_0.1
theorem d_M_together_1 : decode prog_10_method_62_code 1 = .ok (.i2l, 1) := dd_M_together_0.2.1
theorem d_M_together_2 : decode prog_10_method_62_code 2 = .ok (.lconst 0, 1) := dd_M_together_0.2.2.1
theorem d_M_together_3 : decode prog_10_method_62_code 3 = .ok (.lconst 1, 1) := dd_M_together_0.2.2.2.1
theorem d_M_together_4 : decode prog_10_method_62_code 4 = .ok (.invokestatic 114, 3) := dd_M_together_0.2.2.2.2.1
theorem d_M_together_7 : decode prog_10_method_62_code 7 = .ok (.ifCond .ne 5, 3) := dd_M_together_0.2.2.2.2.2.1
theorem d_M_together_10 : decode prog_10_method_62_code 10 = .ok (.iconst (-1), 1) := dd_M_together_0.2.2.2.2.2.2.1
theorem d_M_together_11 : decode prog_10_method_62_code 11 = .ok (.ireturn, 1) := dd_M_together_0.2.2.2.2.2.2.2.1
theorem d_M_together_12 : decode prog_10_method_62_code 12 = .ok (.iconst (-1), 1) := dd_M_together_0.2.2.2.2.2.2.2.2.1
theorem d_M_together_13 : decode prog_10_method_62_code 13 = .ok (.istore_n 2, 1) := dd_M_together_0.2.2.2.2.2.2.2.2.2.1
theorem d_M_together_14 : decode prog_10_method_62_code 14 = .ok (.iconst 0, 1) := dd_M_together_0.2.2.2.2.2.2.2.2.2.2.1
theorem d_M_together_15 : decode prog_10_method_62_code 15 = .ok (.istore_n 3, 1) := dd_M_together_0.2.2.2.2.2.2.2.2.2.2.2.1
theorem d_M_together_16 : decode prog_10_method_62_code 16 = .ok (.iconst 0, 1) := dd_M_together_0.2.2.2.2.2.2.2.2.2.2.2.2.1
theorem d_M_together_17 : decode prog_10_method_62_code 17 = .ok (.istore 4, 2) := dd_M_together_0.2.2.2.2.2.2.2.2.2.2.2.2.2.1
theorem d_M_together_19 : decode prog_10_method_62_code 19 = .ok (.iload 4, 2) := dd_M_together_0.2.2.2.2.2.2.2.2.2.2.2.2.2.2.1
theorem d_M_together_21 : decode prog_10_method_62_code 21 = .ok (.iconst 1, 1) := dd_M_together_0.2.2.2.2.2.2.2.2.2.2.2.2.2.2.2.1
theorem d_M_together_22 : decode prog_10_method_62_code 22 = .ok (.aload_n 0, 1) := dd_M_together_0.2.2.2.2.2.2.2.2.2.2.2.2.2.2.2.2.1
theorem d_M_together_23 : decode prog_10_method_62_code 23 = .ok (.getfield 106, 3) := dd_M_together_0.2.2.2.2.2.2.2.2.2.2.2.2.2.2.2.2.2.1
theorem d_M_together_26 : decode prog_10_method_62_code 26 = .ok (.ishl, 1) := dd_M_together_0.2.2.2.2.2.2.2.2.2.2.2.2.2.2.2.2.2.2.1
theorem d_M_together_27 : decode prog_10_method_62_code 27 = .ok (.if_icmp .ge 82, 3) := dd_M_together_0.2.2.2.2.2.2.2.2.2.2.2.2.2.2.2.2.2.2.2.1
theorem d_M_together_30 : decode prog_10_method_62_code 30 = .ok (.aload_n 0, 1) := dd_M_together_0.2.2.2.2.2.2.2.2.2.2.2.2.2.2.2.2.2.2.2.2.1
theorem d_M_together_31 : decode prog_10_method_62_code 31 = .ok (.iload 4, 2) := dd_M_together_0.2.2.2.2.2.2.2.2.2.2.2.2.2.2.2.2.2.2.2.2.2.1
theorem d_M_together_33 : decode prog_10_method_62_code 33 = .ok (.invokevirtual 260, 3) := dd_M_together_0.2.2.2.2.2.2.2.2.2.2.2.2.2.2.2.2.2.2.2.2.2.2.1
theorem d_M_together_36 : decode prog_10_method_62_code 36 = .ok (.iload 4, 2) := dd_M_together_0.2.2.2.2.2.2.2.2.2.2.2.2.2.2.2.2.2.2.2.2.2.2.2
set_option maxRecDepth 100000 in
theorem dd_M_together_38 : (decode prog_10_method_62_code 38 = .ok (.aload_n 0, 1)) ∧ (decode prog_10_method_62_code 39 = .ok (.getfield 7, 3)) ∧ (decode prog_10_method_62_code 42 = .ok (.bipush 10, 2)) ∧ (decode prog_10_method_62_code 44 = .ok (.iaload, 1)) ∧ (decode prog_10_method_62_code 45 = .ok (.iconst (-1), 1)) ∧ (decode prog_10_method_62_code 46 = .ok (.ixor, 1)) ∧ (decode prog_10_method_62_code 47 = .ok (.iand, 1)) ∧ (decode prog_10_method_62_code 48 = .ok (.ifCond .ne 25, 3)) ∧ (decode prog_10_method_62_code 51 = .ok (.iload 4, 2)) ∧ (decode prog_10_method_62_code 53 = .ok (.invokestatic 237, 3)) ∧ (decode prog_10_method_62_code 56 = .ok (.iload_n 2, 1)) ∧ (decode prog_10_method_62_code 57 = .ok (.if_icmp .le 16, 3)) ∧ (decode prog_10_method_62_code 60 = .ok (.aload_n 0, 1)) ∧ (decode prog_10_method_62_code 61 = .ok (.invokevirtual 263, 3)) ∧ (decode prog_10_method_62_code 64 = .ok (.ldc 246, 2)) ∧ (decode prog_10_method_62_code 66 = .ok (.if_icmp .eq 7, 3)) ∧ (decode prog_10_method_62_code 69 = .ok (.iconst 1, 1)) ∧ (decode prog_10_method_62_code 70 = .ok (.goto 4, 3)) ∧ (decode prog_10_method_62_code 73 = .ok (.iconst 0, 1)) ∧ (decode prog_10_method_62_code 74 = .ok (.istore 5, 2)) ∧ (decode prog_10_method_62_code 76 = .ok (.iload 5, 2)) ∧ (decode prog_10_method_62_code 78 = .ok (.ifCond .eq 8, 3)) ∧ (decode prog_10_method_62_code 81 = .ok (.iload 4, 2)) ∧ (decode prog_10_method_62_code 83 = .ok (.goto 4, 3)) := by
  have h : List.drop 38 prog_10_method_62_code.data.toList = 0x2a :: _ := rfl
  refine ⟨zq_k_n 42 h rfl (zq_o_42 _), ?_⟩
  replace h := zq_nx1 (q := 39) h rfl
  refine ⟨zq_k_u2 180 (fun z => .getfield z) 7 h rfl (zq_o_180 _) (by decide +kernel), ?_⟩
  replace h := zq_nx3 (q := 42) h rfl
  refine ⟨zq_k_s1 16 (fun z => .bipush z) 10 h rfl (zq_o_16 _) (by decide +kernel), ?_⟩
  replace h := zq_nx2 (q := 44) h rfl
  refine ⟨zq_k_n 46 h rfl (zq_o_46 _), ?_⟩
  replace h := zq_nx1 (q := 45) h rfl
  refine ⟨zq_k_n 2 h rfl (zq_o_2 _), ?_⟩
  replace h := zq_nx1 (q := 46) h rfl
  refine ⟨zq_k_n 130 h rfl (zq_o_130 _), ?_⟩
  replace h := zq_nx1 (q := 47) h rfl
  refine ⟨zq_k_n 126 h rfl (zq_o_126 _), ?_⟩
  replace h := zq_nx1 (q := 48) h rfl
  refine ⟨zq_k_s2 154 (fun z => .ifCond .ne z) 25 h rfl (zq_o_154 _) (by decide +kernel), ?_⟩
  replace h := zq_nx3 (q := 51) h rfl
  refine ⟨zq_k_u1 21 (fun z => .iload z) 4 h rfl (zq_o_21 _) (by decide +kernel), ?_⟩
  replace h := zq_nx2 (q := 53) h rfl
  refine ⟨zq_k_u2 184 (fun z => .invokestatic z) 237 h rfl (zq_o_184 _) (by decide +kernel), ?_⟩
  replace h := zq_nx3 (q := 56) h rfl
  refine ⟨zq_k_n 28 h rfl (zq_o_28 _), ?_⟩
  replace h := zq_nx1 (q := 57) h rfl
  refine ⟨zq_k_s2 164 (fun z => .if_icmp .le z) 16 h rfl (zq_o_164 _) (by decide +kernel), ?_⟩
  replace h := zq_nx3 (q := 60) h rfl
  refine ⟨zq_k_n 42 h rfl (zq_o_42 _), ?_⟩
  replace h := zq_nx1 (q := 61) h rfl
  refine ⟨zq_k_u2 182 (fun z => .invokevirtual z) 263 h rfl (zq_o_182 _) (by decide +kernel), ?_⟩
  replace h := zq_nx3 (q := 64) h rfl
  refine ⟨zq_k_u1 18 (fun z => .ldc z) 246 h rfl (zq_o_18 _) (by decide +kernel), ?_⟩
  replace h := zq_nx2 (q := 66) h rfl
  refine ⟨zq_k_s2 159 (fun z => .if_icmp .eq z) 7 h rfl (zq_o_159 _) (by decide +kernel), ?_⟩
  replace h := zq_nx3 (q := 69) h rfl
  refine ⟨zq_k_n 4 h rfl (zq_o_4 _), ?_⟩
  replace h := zq_nx1 (q := 70) h rfl
  refine ⟨zq_k_s2 167 (fun z => .goto z) 4 h rfl (zq_o_167 _) (by decide +kernel), ?_⟩
  replace h := zq_nx3 (q := 73) h rfl
  refine ⟨zq_k_n 3 h rfl (zq_o_3 _), ?_⟩
  replace h := zq_nx1 (q := 74) h rfl
  refine ⟨zq_k_u1 54 (fun z => .istore z) 5 h rfl (zq_o_54 _) (by decide +kernel), ?_⟩
  replace h := zq_nx2 (q := 76) h rfl
  refine ⟨zq_k_u1 21 (fun z => .iload z) 5 h rfl (zq_o_21 _) (by decide +kernel), ?_⟩
  replace h := zq_nx2 (q := 78) h rfl
  refine ⟨zq_k_s2 153 (fun z => .ifCond .eq z) 8 h rfl (zq_o_153 _) (by decide +kernel), ?_⟩
  replace h := zq_nx3 (q := 81) h rfl
  refine ⟨zq_k_u1 21 (fun z => .iload z) 4 h rfl (zq_o_21 _) (by decide +kernel), ?_⟩
  replace h := zq_nx2 (q := 83) h rfl
  exact zq_k_s2 167 (fun z => .goto z) 4 h rfl (zq_o_167 _) (by decide +kernel)
theorem d_M_together_38 : decode prog_10_method_62_code 38 = .ok (.aload_n 0, 1) := dd_M_together_38.1
theorem d_M_together_39 : decode prog_10_method_62_code 39 = .ok (.getfield 7, 3) := dd_M_together_38.2.1
theorem d_M_together_42 : decode prog_10_method_62_code 42 = .ok (.bipush 10, 2) := dd_M_together_38.2.2.1
theorem d_M_together_44 : decode prog_10_method_62_code 44 = .ok (.iaload, 1) := dd_M_together_38.2.2.2.1
theorem d_M_together_45 : decode prog_10_method_62_code 45 = .ok (.iconst (-1), 1) := dd_M_together_38.2.2.2.2.1
theorem d_M_together_46 : decode prog_10_method_62_code 46 = .ok (.ixor, 1) := dd_M_together_38.2.2.2.2.2.1
theorem d_M_together_47 : decode prog_10_method_62_code 47 = .ok (.iand, 1) := dd_M_together_38.2.2.2.2.2.2.1
theorem d_M_together_48 : decode prog_10_method_62_code 48 = .ok (.ifCond .ne 25, 3) := dd_M_together_38.2.2.2.2.2.2.2.1
theorem d_M_together_51 : decode prog_10_method_62_code 51 = .ok (.iload 4, 2) := dd_M_together_38.2.2.2.2.2.2.2.2.1
theorem d_M_together_53 : decode prog_10_method_62_code 53 = .ok (.invokestatic 237, 3) := dd_M_together_38.2.2.2.2.2.2.2.2.2.1
theorem d_M_together_56 : decode prog_10_method_62_code 56 = .ok (.iload_n 2, 1) := dd_M_together_38.2.2.2.2.2.2.2.2.2.2.1
theorem d_M_together_57 : decode prog_10_method_62_code 57 = .ok (.if_icmp .le 16, 3) := dd_M_together_38.2.2.2.2.2.2.2.2.2.2.2.1
theorem d_M_together_60 : decode prog_10_method_62_code 60 = .ok (.aload_n 0, 1) := dd_M_together_38.2.2.2.2.2.2.2.2.2.2.2.2.1
theorem d_M_together_61 : decode prog_10_method_62_code 61 = .ok (.invokevirtual 263, 3) := dd_M_together_38.2.2.2.2.2.2.2.2.2.2.2.2.2.1
theorem d_M_together_64 : decode prog_10_method_62_code 64 = .ok (.ldc 246, 2) := dd_M_together_38.2.2.2.2.2.2.2.2.2.2.2.2.2.2.1
theorem d_M_together_66 : decode prog_10_method_62_code 66 = .ok (.if_icmp .eq 7, 3) := dd_M_together_38.2.2.2.2.2.2.2.2.2.2.2.2.2.2.2.1
theorem d_M_together_69 : decode prog_10_method_62_code 69 = .ok (.iconst 1, 1) := dd_M_together_38.2.2.2.2.2.2.2.2.2.2.2.2.2.2.2.2.1
theorem d_M_together_70 : decode prog_10_method_62_code 70 = .ok (.goto 4, 3) := dd_M_together_38.2.2.2.2.2.2.2.2.2.2.2.2.2.2.2.2.2.1
theorem d_M_together_73 : decode prog_10_method_62_code 73 = .ok (.iconst 0, 1) := dd_M_together_38.2.2.2.2.2.2.2.2.2.2.2.2.2.2.2.2.2.2.1
theorem d_M_together_74 : decode prog_10_method_62_code 74 = .ok (.istore 5, 2) := dd_M_together_38.2.2.2.2.2.2.2.2.2.2.2.2.2.2.2.2.2.2.2.1
theorem d_M_together_76 : decode prog_10_method_62_code 76 = .ok (.iload 5, 2) := dd_M_together_38.2.2.2.2.2.2.2.2.2.2.2.2.2.2.2.2.2.2.2.2.1
theorem d_M_together_78 : decode prog_10_method_62_code 78 = .ok (.ifCond .eq 8, 3) := dd_M_together_38.2.2.2.2.2.2.2.2.2.2.2.2.2.2.2.2.2.2.2.2.2.1
theorem d_M_together_81 : decode prog_10_method_62_code 81 = .ok (.iload 4, 2) := dd_M_together_38.2.2.2.2.2.2.2.2.2.2.2.2.2.2.2.2.2.2.2.2.2.2.1
theorem d_M_together_83 : decode prog_10_method_62_code 83 = .ok (.goto 4, 3) := dd_M_together_38.2.2.2.2.2.2.2.2.2.2.2.2.2.2.2.2.2.2.2.2.2.2.2
set_option maxRecDepth 100000 in
theorem dd_M_together_86 : (decode prog_10_method_62_code 86 = .ok (.iload_n 3, 1)) ∧ (decode prog_10_method_62_code 87 = .ok (.istore_n 3, 1)) ∧ (decode prog_10_method_62_code 88 = .ok (.iload 5, 2)) ∧ (decode prog_10_method_62_code 90 = .ok (.ifCond .eq 11, 3)) ∧ (decode prog_10_method_62_code 93 = .ok (.iload 4, 2)) ∧ (decode prog_10_method_62_code 95 = .ok (.invokestatic 237, 3)) ∧ (decode prog_10_method_62_code 98 = .ok (.goto 4, 3)) ∧ (decode prog_10_method_62_code 101 = .ok (.iload_n 2, 1)) ∧ (decode prog_10_method_62_code 102 = .ok (.istore_n 2, 1)) ∧ (decode prog_10_method_62_code 103 = .ok (.iinc 4 1, 3)) ∧ (decode prog_10_method_62_code 106 = .ok (.goto (-87), 3)) ∧ (decode prog_10_method_62_code 109 = .ok (.iload_n 1, 1)) ∧ (decode prog_10_method_62_code 110 = .ok (.ifCond .ne 7, 3)) ∧ (decode prog_10_method_62_code 113 = .ok (.iload_n 2, 1)) ∧ (decode prog_10_method_62_code 114 = .ok (.goto 4, 3)) ∧ (decode prog_10_method_62_code 117 = .ok (.iload_n 3, 1)) ∧ (decode prog_10_method_62_code 118 = .ok (.ireturn, 1)) := by
  have h : List.drop 86 prog_10_method_62_code.data.toList = 0x1d :: _ := rfl
  refine ⟨zq_k_n 29 h rfl (zq_o_29 _), ?_⟩
  replace h := zq_nx1 (q := 87) h rfl
  refine ⟨zq_k_n 62 h rfl (zq_o_62 _), ?_⟩
  replace h := zq_nx1 (q := 88) h rfl
  refine ⟨zq_k_u1 21 (fun z => .iload z) 5 h rfl (zq_o_21 _) (by decide +kernel), ?_⟩
  replace h := zq_nx2 (q := 90) h rfl
  refine ⟨zq_k_s2 153 (fun z => .ifCond .eq z) 11 h rfl (zq_o_153 _) (by decide +kernel), ?_⟩
  replace h := zq_nx3 (q := 93) h rfl
  refine ⟨zq_k_u1 21 (fun z => .iload z) 4 h rfl (zq_o_21 _) (by decide +kernel), ?_⟩
  replace h := zq_nx2 (q := 95) h rfl
  refine ⟨zq_k_u2 184 (fun z => .invokestatic z) 237 h rfl (zq_o_184 _) (by decide +kernel), ?_⟩
  replace h := zq_nx3 (q := 98) h rfl
  refine ⟨zq_k_s2 167 (fun z => .goto z) 4 h rfl (zq_o_167 _) (by decide +kernel), ?_⟩
  replace h := zq_nx3 (q := 101) h rfl
  refine ⟨zq_k_n 28 h rfl (zq_o_28 _), ?_⟩
  replace h := zq_nx1 (q := 102) h rfl
  refine ⟨zq_k_n 61 h rfl (zq_o_61 _), ?_⟩
  replace h := zq_nx1 (q := 103) h rfl
  refine ⟨zq_k_iinc 4 1 h rfl (zq_o_132 _) (by decide +kernel) (by decide +kernel), ?_⟩
  replace h := zq_nx3 (q := 106) h rfl
  refine ⟨zq_k_s2 167 (fun z => .goto z) (-87) h rfl (zq_o_167 _) (by decide +kernel), ?_⟩
  replace h := zq_nx3 (q := 109) h rfl
  refine ⟨zq_k_n 27 h rfl (zq_o_27 _), ?_⟩
  replace h := zq_nx1 (q := 110) h rfl
  refine ⟨zq_k_s2 154 (fun z => .ifCond .ne z) 7 h rfl (zq_o_154 _) (by decide +kernel), ?_⟩
  replace h := zq_nx3 (q := 113) h rfl
  refine ⟨zq_k_n 28 h rfl (zq_o_28 _), ?_⟩
  replace h := zq_nx1 (q := 114) h rfl
  refine ⟨zq_k_s2 167 (fun z => .goto z) 4 h rfl (zq_o_167 _) (by decide +kernel), ?_⟩
  replace h := zq_nx3 (q := 117) h rfl
  refine ⟨zq_k_n 29 h rfl (zq_o_29 _), ?_⟩
  replace h := zq_nx1 (q := 118) h rfl
  exact zq_k_n 172 h rfl (zq_o_172 _)
theorem d_M_together_86 : decode prog_10_method_62_code 86 = .ok (.iload_n 3, 1) := dd_M_together_86.1
theorem d_M_together_87 : decode prog_10_method_62_code 87 = .ok (.istore_n 3, 1) := dd_M_together_86.2.1
theorem d_M_together_88 : decode prog_10_method_62_code 88 = .ok (.iload 5, 2) := dd_M_together_86.2.2.1
theorem d_M_together_90 : decode prog_10_method_62_code 90 = .ok (.ifCond .eq 11, 3) := dd_M_together_86.2.2.2.1
theorem d_M_together_93 : decode prog_10_method_62_code 93 = .ok (.iload 4, 2) := dd_M_together_86.2.2.2.2.1
theorem d_M_together_95 : decode prog_10_method_62_code 95 = .ok (.invokestatic 237, 3) := dd_M_together_86.2.2.2.2.2.1
theorem d_M_together_98 : decode prog_10_method_62_code 98 = .ok (.goto 4, 3) := dd_M_together_86.2.2.2.2.2.2.1
theorem d_M_together_101 : decode prog_10_method_62_code 101 = .ok (.iload_n 2, 1) := dd_M_together_86.2.2.2.2.2.2.2.1
theorem d_M_together_102 : decode prog_10_method_62_code 102 = .ok (.istore_n 2, 1) := dd_M_together_86.2.2.2.2.2.2.2.2.1
theorem d_M_together_103 : decode prog_10_method_62_code 103 = .ok (.iinc 4 1, 3) := dd_M_together_86.2.2.2.2.2.2.2.2.2.1
theorem d_M_together_106 : decode prog_10_method_62_code 106 = .ok (.goto (-87), 3) := dd_M_together_86.2.2.2.2.2.2.2.2.2.2.1
theorem d_M_together_109 : decode prog_10_method_62_code 109 = .ok (.iload_n 1, 1) := dd_M_together_86.2.2.2.2.2.2.2.2.2.2.2.1
theorem d_M_together_110 : decode prog_10_method_62_code 110 = .ok (.ifCond .ne 7, 3) := dd_M_together_86.2.2.2.2.2.2.2.2.2.2.2.2.1
theorem d_M_together_113 : decode prog_10_method_62_code 113 = .ok (.iload_n 2, 1) := dd_M_together_86.2.2.2.2.2.2.2.2.2.2.2.2.2.1
theorem d_M_together_114 : decode prog_10_method_62_code 114 = .ok (.goto 4, 3) := dd_M_together_86.2.2.2.2.2.2.2.2.2.2.2.2.2.2.1
theorem d_M_together_117 : decode prog_10_method_62_code 117 = .ok (.iload_n 3, 1) := dd_M_together_86.2.2.2.2.2.2.2.2.2.2.2.2.2.2.2.1
theorem d_M_together_118 : decode prog_10_method_62_code 118 = .ok (.ireturn, 1) := dd_M_together_86.2.2.2.2.2.2.2.2.2.2.2.2.2.2.2.2
def f_M_together_102 (rec19 : Nat → Int32 → Int32 → Int32 → Int32 → mH → Option (Int32 × mH)) (b0 : Nat) (b1 : Int32) (b3 : Int32) (b4 : Int32) (s0 : Int32) (h : mH) : Option (Int32 × mH) :=
  rec19 b0 b1 s0 b3 (b4 + (1 : Int32)) h
set_option maxRecDepth 20000 in
theorem t_M_together_102 {sc : Nat × (Nat → Int32)} (rec19 : Nat → Int32 → Int32 → Int32 → Int32 → mH → Option (Int32 × mH)) (hrec19 : ∀ (b0 : Nat) (b1 : Int32) (b2 : Int32) (b3 : Int32) (b4 : Int32) (h : mH) (r : Int32) (h' : mH), rec19 b0 b1 b2 b3 b4 h = some (r, h') → G sc y_M_together prog_10_method_62_code 6 (some .int) 6 150 19 [(0, .ref b0), (1, .int b1), (2, .int b2), (3, .int b3), (4, .int b4)] [] h (some (.int r)) h') (b0 : Nat) (b1 : Int32) (b3 : Int32) (b4 : Int32) (s0 : Int32) (h : mH) (r : Int32) (h' : mH) (hf : f_M_together_102 rec19 b0 b1 b3 b4 s0 h = some (r, h')) : G sc y_M_together prog_10_method_62_code 6 (some .int) 6 150 102 [(0, .ref b0), (1, .int b1), (3, .int b3), (4, .int b4)] [.int s0] h (some (.int r)) h' := by
  unfold f_M_together_102 at hf
  refine g_istore_n (pc := 102) [(2, .int s0), (0, .ref b0), (1, .int b1), (3, .int b3), (4, .int b4)] d_M_together_102 rfl (Nat.le_of_ble_eq_true rfl) rfl ?_
  refine g_iinc (pc := 103) 4 (b4 + (1 : Int32)) [(4, .int (b4 + (1 : Int32))), (2, .int s0), (0, .ref b0), (1, .int b1), (3, .int b3)] d_M_together_103 rfl rfl (Nat.le_of_ble_eq_true rfl) rfl ?_
  refine g_goto (pc := 106) 19 d_M_together_106 (by decide) ?_
  refine g_lv [2, 3, 1, 4, 0] rfl ?_
  exact hrec19 _ _ _ _ _ _ _ _  hf
def f_M_together_87 (rec19 : Nat → Int32 → Int32 → Int32 → Int32 → mH → Option (Int32 × mH)) (b0 : Nat) (b1 : Int32) (b2 : Int32) (b4 : Int32) (b5 : Int32) (s0 : Int32) (h : mH) : Option (Int32 × mH) :=
  if b5 = 0 then
    f_M_together_102 rec19 b0 b1 s0 b4 b2 h
  else
    bd2 (f_M_bitsOf b4 h) fun x31 h29 =>
    f_M_together_102 rec19 b0 b1 s0 b4 x31 h29
set_option maxRecDepth 20000 in
theorem t_M_together_87 {sc : Nat × (Nat → Int32)} (rec19 : Nat → Int32 → Int32 → Int32 → Int32 → mH → Option (Int32 × mH)) (hrec19 : ∀ (b0 : Nat) (b1 : Int32) (b2 : Int32) (b3 : Int32) (b4 : Int32) (h : mH) (r : Int32) (h' : mH), rec19 b0 b1 b2 b3 b4 h = some (r, h') → G sc y_M_together prog_10_method_62_code 6 (some .int) 6 150 19 [(0, .ref b0), (1, .int b1), (2, .int b2), (3, .int b3), (4, .int b4)] [] h (some (.int r)) h') (b0 : Nat) (b1 : Int32) (b2 : Int32) (b4 : Int32) (b5 : Int32) (s0 : Int32) (h : mH) (r : Int32) (h' : mH) (hf : f_M_together_87 rec19 b0 b1 b2 b4 b5 s0 h = some (r, h')) : G sc y_M_together prog_10_method_62_code 6 (some .int) 6 150 87 [(0, .ref b0), (1, .int b1), (2, .int b2), (4, .int b4), (5, .int b5)] [.int s0] h (some (.int r)) h' := by
  unfold f_M_together_87 at hf
  refine g_istore_n (pc := 87) [(3, .int s0), (0, .ref b0), (1, .int b1), (2, .int b2), (4, .int b4), (5, .int b5)] d_M_together_87 rfl (Nat.le_of_ble_eq_true rfl) rfl ?_
  refine g_iload (pc := 88) 5 d_M_together_88 rfl ?_
  refine g_ifeq (pc := 90) 101 d_M_together_90 (by decide) (fun c32 => ?_) (fun c32 => ?_)
  · replace hf := (if_pos c32).symm.trans hf
    refine g_iload_n (pc := 101) 3 d_M_together_101 rfl rfl ?_
    refine g_lv [1, 2, 0, 4] rfl ?_
    exact t_M_together_102 rec19 hrec19 _ _ _ _ _ _ _ _  hf
  · replace hf := (if_neg c32).symm.trans hf
    refine g_iload (pc := 93) 4 d_M_together_93 rfl ?_
    obtain ⟨x31, h29, e30, hf⟩ := bd2_e hf
    refine g_callS (pc := 95) [.int b4] (site_of si_M_bitsOf (by decide) (by decide)) wd_1230 wd_1231 d_M_together_95 (Nat.le_of_ble_eq_true rfl) (fun z => absurd z (by decide)) (fun z => absurd z (by decide)) (fun z => absurd z (by decide)) (c_M_bitsOf e30) rfl ?_
    refine g_st [.int x31] rfl ?_
    refine g_goto (pc := 98) 102 d_M_together_98 (by decide) ?_
    refine g_lv [1, 2, 0, 4] rfl ?_
    exact t_M_together_102 rec19 hrec19 _ _ _ _ _ _ _ _  hf
def f_M_together_74 (rec19 : Nat → Int32 → Int32 → Int32 → Int32 → mH → Option (Int32 × mH)) (b0 : Nat) (b1 : Int32) (b2 : Int32) (b3 : Int32) (b4 : Int32) (s0 : Int32) (h : mH) : Option (Int32 × mH) :=
  if s0 = 0 then
    f_M_together_87 rec19 b0 b1 b2 b4 s0 b3 h
  else
    f_M_together_87 rec19 b0 b1 b2 b4 s0 b4 h
set_option maxRecDepth 20000 in
theorem t_M_together_74 {sc : Nat × (Nat → Int32)} (rec19 : Nat → Int32 → Int32 → Int32 → Int32 → mH → Option (Int32 × mH)) (hrec19 : ∀ (b0 : Nat) (b1 : Int32) (b2 : Int32) (b3 : Int32) (b4 : Int32) (h : mH) (r : Int32) (h' : mH), rec19 b0 b1 b2 b3 b4 h = some (r, h') → G sc y_M_together prog_10_method_62_code 6 (some .int) 6 150 19 [(0, .ref b0), (1, .int b1), (2, .int b2), (3, .int b3), (4, .int b4)] [] h (some (.int r)) h') (b0 : Nat) (b1 : Int32) (b2 : Int32) (b3 : Int32) (b4 : Int32) (s0 : Int32) (h : mH) (r : Int32) (h' : mH) (hf : f_M_together_74 rec19 b0 b1 b2 b3 b4 s0 h = some (r, h')) : G sc y_M_together prog_10_method_62_code 6 (some .int) 6 150 74 [(0, .ref b0), (1, .int b1), (2, .int b2), (3, .int b3), (4, .int b4)] [.int s0] h (some (.int r)) h' := by
  unfold f_M_together_74 at hf
  refine g_istore (pc := 74) [(5, .int s0), (0, .ref b0), (1, .int b1), (2, .int b2), (3, .int b3), (4, .int b4)] d_M_together_74 (Nat.le_of_ble_eq_true rfl) rfl ?_
  refine g_iload (pc := 76) 0 d_M_together_76 rfl ?_
  refine g_ifeq (pc := 78) 86 d_M_together_78 (by decide) (fun c28 => ?_) (fun c28 => ?_)
  · replace hf := (if_pos c28).symm.trans hf
    refine g_iload_n (pc := 86) 4 d_M_together_86 rfl rfl ?_
    refine g_lv [1, 2, 3, 5, 0] rfl ?_
    exact t_M_together_87 rec19 hrec19 _ _ _ _ _ _ _ _ _  hf
  · replace hf := (if_neg c28).symm.trans hf
    refine g_iload (pc := 81) 5 d_M_together_81 rfl ?_
    refine g_goto (pc := 83) 87 d_M_together_83 (by decide) ?_
    refine g_lv [1, 2, 3, 5, 0] rfl ?_
    exact t_M_together_87 rec19 hrec19 _ _ _ _ _ _ _ _ _  hf
def f_M_together_73 (rec19 : Nat → Int32 → Int32 → Int32 → Int32 → mH → Option (Int32 × mH)) (b0 : Nat) (b1 : Int32) (b2 : Int32) (b3 : Int32) (b4 : Int32) (h : mH) : Option (Int32 × mH) :=
  f_M_together_74 rec19 b0 b1 b2 b3 b4 (0 : Int32) h
set_option maxRecDepth 20000 in
theorem t_M_together_73 {sc : Nat × (Nat → Int32)} (rec19 : Nat → Int32 → Int32 → Int32 → Int32 → mH → Option (Int32 × mH)) (hrec19 : ∀ (b0 : Nat) (b1 : Int32) (b2 : Int32) (b3 : Int32) (b4 : Int32) (h : mH) (r : Int32) (h' : mH), rec19 b0 b1 b2 b3 b4 h = some (r, h') → G sc y_M_together prog_10_method_62_code 6 (some .int) 6 150 19 [(0, .ref b0), (1, .int b1), (2, .int b2), (3, .int b3), (4, .int b4)] [] h (some (.int r)) h') (b0 : Nat) (b1 : Int32) (b2 : Int32) (b3 : Int32) (b4 : Int32) (h : mH) (r : Int32) (h' : mH) (hf : f_M_together_73 rec19 b0 b1 b2 b3 b4 h = some (r, h')) : G sc y_M_together prog_10_method_62_code 6 (some .int) 6 150 73 [(0, .ref b0), (1, .int b1), (2, .int b2), (3, .int b3), (4, .int b4)] [] h (some (.int r)) h' := by
  unfold f_M_together_73 at hf
  refine g_iconst (pc := 73) (0 : Int32) d_M_together_73 (by decide) ?_
  refine g_lv [0, 1, 2, 3, 4] rfl ?_
  exact t_M_together_74 rec19 hrec19 _ _ _ _ _ _ _ _ _  hf
def f_M_together_19b (rec19 : Nat → Int32 → Int32 → Int32 → Int32 → mH → Option (Int32 × mH)) (b0 : Nat) (b1 : Int32) (b2 : Int32) (b3 : Int32) (b4 : Int32) (h : mH) : Option (Int32 × mH) :=
  bd1 (gI h b0 8 2) fun x5 =>
  if ((1 : Int32) <<< (x5 &&& 31)) ≤ b4 then
    if b1 = 0 then
      some (b2, h)
    else
      some (b3, h)
  else
    bd1 (kC h b0 8) fun _ =>
    bd1 (f_M_startsRota b0 b4 h) fun h10 =>
    bd1 (gR h10 b0 8 0) fun x12 =>
    bd1 (aI h10 0 x12 (10 : Int32)) fun x14 =>
    if (b4 &&& (x14 ^^^ ((-1) : Int32))) = 0 then
      bd2 (f_M_bitsOf b4 h10) fun x18 h16 =>
      if x18 ≤ b2 then
        f_M_together_73 rec19 b0 b1 b2 b3 b4 h16
      else
        bd1 (kC h16 b0 8) fun _ =>
        bd2 (f_M_findRota b0 h16) fun x23 h21 =>
        if x23 = (1000000 : Int32) then
          f_M_together_73 rec19 b0 b1 b2 b3 b4 h21
        else
          f_M_together_74 rec19 b0 b1 b2 b3 b4 (1 : Int32) h21
    else
      f_M_together_73 rec19 b0 b1 b2 b3 b4 h10
set_option maxRecDepth 20000 in
theorem t_M_together_19b {sc : Nat × (Nat → Int32)} (rec19 : Nat → Int32 → Int32 → Int32 → Int32 → mH → Option (Int32 × mH)) (hrec19 : ∀ (b0 : Nat) (b1 : Int32) (b2 : Int32) (b3 : Int32) (b4 : Int32) (h : mH) (r : Int32) (h' : mH), rec19 b0 b1 b2 b3 b4 h = some (r, h') → G sc y_M_together prog_10_method_62_code 6 (some .int) 6 150 19 [(0, .ref b0), (1, .int b1), (2, .int b2), (3, .int b3), (4, .int b4)] [] h (some (.int r)) h') (b0 : Nat) (b1 : Int32) (b2 : Int32) (b3 : Int32) (b4 : Int32) (h : mH) (r : Int32) (h' : mH) (hf : f_M_together_19b rec19 b0 b1 b2 b3 b4 h = some (r, h')) : G sc y_M_together prog_10_method_62_code 6 (some .int) 6 150 19 [(0, .ref b0), (1, .int b1), (2, .int b2), (3, .int b3), (4, .int b4)] [] h (some (.int r)) h' := by
  unfold f_M_together_19b at hf
  refine g_iload (pc := 19) 4 d_M_together_19 rfl ?_
  refine g_iconst (pc := 21) (1 : Int32) d_M_together_21 (by decide) ?_
  refine g_aload_n (pc := 22) 0 d_M_together_22 rfl rfl ?_
  obtain ⟨x5, e6, hf⟩ := bd1_e hf
  refine g_get (pc := 23) (ci := 8) (kk := 2) d_M_together_23 rfl in_M (by decide) wd_940 (gI_spec e6) ?_
  refine g_ishl (pc := 26) d_M_together_26 ?_
  refine g_icmpge (pc := 27) 109 d_M_together_27 (by decide) (fun c27 => ?_) (fun c27 => ?_)
  · replace hf := (if_pos c27).symm.trans hf
    refine g_iload_n (pc := 109) 1 d_M_together_109 rfl rfl ?_
    refine g_ifne (pc := 110) 117 d_M_together_110 (by decide) (fun c7 => ?_) (fun c7 => ?_)
    · replace hf := (if_neg c7).symm.trans hf
      refine g_iload_n (pc := 117) 3 d_M_together_117 rfl rfl ?_
      obtain ⟨rfl, rfl⟩ := ret2 hf
      exact g_iret (pc := 118) rfl d_M_together_118
    · replace hf := (if_pos c7).symm.trans hf
      refine g_iload_n (pc := 113) 2 d_M_together_113 rfl rfl ?_
      refine g_goto (pc := 114) 118 d_M_together_114 (by decide) ?_
      obtain ⟨rfl, rfl⟩ := ret2 hf
      exact g_iret (pc := 118) rfl d_M_together_118
  · replace hf := (if_neg c27).symm.trans hf
    refine g_aload_n (pc := 30) 0 d_M_together_30 rfl rfl ?_
    refine g_iload (pc := 31) 4 d_M_together_31 rfl ?_
    obtain ⟨u9, e8, hf⟩ := bd1_e hf
    obtain ⟨h10, e11, hf⟩ := bd1_e hf
    refine g_callV (pc := 33) (ci := 8) [.int b4] (site_of si_M_startsRota (by decide) (by decide)) wd_1257 wd_1259 wp_57 d_M_together_33 rfl e8 (Nat.le_of_ble_eq_true rfl) (fun z => absurd z (by decide)) (fun z => absurd z (by decide)) (fun z => absurd z (by decide)) (c_M_startsRota e11) rfl ?_
    refine g_st [] rfl ?_
    refine g_iload (pc := 36) 4 d_M_together_36 rfl ?_
    refine g_aload_n (pc := 38) 0 d_M_together_38 rfl rfl ?_
    obtain ⟨x12, e13, hf⟩ := bd1_e hf
    refine g_get (pc := 39) (ci := 8) (kk := 0) d_M_together_39 rfl in_M (by decide) wd_938 (gR_spec e13) ?_
    refine g_bipush (pc := 42) (10 : Int32) d_M_together_42 (by decide) ?_
    obtain ⟨x14, e15, hf⟩ := bd1_e hf
    refine g_iald (pc := 44) d_M_together_44 e15 ?_
    refine g_iconst (pc := 45) ((-1) : Int32) d_M_together_45 (by decide) ?_
    refine g_ixor (pc := 46) d_M_together_46 ?_
    refine g_iand (pc := 47) d_M_together_47 ?_
    refine g_ifne (pc := 48) 73 d_M_together_48 (by decide) (fun c26 => ?_) (fun c26 => ?_)
    · replace hf := (if_neg c26).symm.trans hf
      refine g_lv [0, 1, 2, 3, 4] rfl ?_
      exact t_M_together_73 rec19 hrec19 _ _ _ _ _ _ _ _  hf
    · replace hf := (if_pos c26).symm.trans hf
      refine g_iload (pc := 51) 4 d_M_together_51 rfl ?_
      obtain ⟨x18, h16, e17, hf⟩ := bd2_e hf
      refine g_callS (pc := 53) [.int b4] (site_of si_M_bitsOf (by decide) (by decide)) wd_1230 wd_1231 d_M_together_53 (Nat.le_of_ble_eq_true rfl) (fun z => absurd z (by decide)) (fun z => absurd z (by decide)) (fun z => absurd z (by decide)) (c_M_bitsOf e17) rfl ?_
      refine g_st [.int x18] rfl ?_
      refine g_iload_n (pc := 56) 2 d_M_together_56 rfl rfl ?_
      refine g_icmple (pc := 57) 73 d_M_together_57 (by decide) (fun c25 => ?_) (fun c25 => ?_)
      · replace hf := (if_pos c25).symm.trans hf
        refine g_lv [0, 1, 2, 3, 4] rfl ?_
        exact t_M_together_73 rec19 hrec19 _ _ _ _ _ _ _ _  hf
      · replace hf := (if_neg c25).symm.trans hf
        refine g_aload_n (pc := 60) 0 d_M_together_60 rfl rfl ?_
        obtain ⟨u20, e19, hf⟩ := bd1_e hf
        obtain ⟨x23, h21, e22, hf⟩ := bd2_e hf
        refine g_callV (pc := 61) (ci := 8) [] (site_of si_M_findRota (by decide) (by decide)) wd_1261 wd_1263 wp_58 d_M_together_61 rfl e19 (Nat.le_of_ble_eq_true rfl) (fun z => absurd z (by decide)) (fun z => absurd z (by decide)) (fun z => absurd z (by decide)) (c_M_findRota e22) rfl ?_
        refine g_st [.int x23] rfl ?_
        refine g_ldc (pc := 64) (1000000 : Int32) d_M_together_64 wd_1272 ?_
        refine g_icmpeq (pc := 66) 73 d_M_together_66 (by decide) (fun c24 => ?_) (fun c24 => ?_)
        · replace hf := (if_pos c24).symm.trans hf
          refine g_lv [0, 1, 2, 3, 4] rfl ?_
          exact t_M_together_73 rec19 hrec19 _ _ _ _ _ _ _ _  hf
        · replace hf := (if_neg c24).symm.trans hf
          refine g_iconst (pc := 69) (1 : Int32) d_M_together_69 (by decide) ?_
          refine g_goto (pc := 70) 74 d_M_together_70 (by decide) ?_
          refine g_lv [0, 1, 2, 3, 4] rfl ?_
          exact t_M_together_74 rec19 hrec19 _ _ _ _ _ _ _ _ _  hf
def f_M_together_19  : Nat → Nat → Int32 → Int32 → Int32 → Int32 → mH → Option (Int32 × mH)
  | 0 => fun _ _ _ _ _ _ => none
  | n + 1 => f_M_together_19b  (f_M_together_19  n)
theorem t_M_together_19 {sc : Nat × (Nat → Int32)}  : ∀ (n : Nat) (b0 : Nat) (b1 : Int32) (b2 : Int32) (b3 : Int32) (b4 : Int32) (h : mH) (r : Int32) (h' : mH) (hf : f_M_together_19  n b0 b1 b2 b3 b4 h = some (r, h')), G sc y_M_together prog_10_method_62_code 6 (some .int) 6 150 19 [(0, .ref b0), (1, .int b1), (2, .int b2), (3, .int b3), (4, .int b4)] [] h (some (.int r)) h'
  | 0, _, _, _, _, _, _, _, _, hf => by cases hf
  | n + 1, _, _, _, _, _, _, _, _, hf => t_M_together_19b  (f_M_together_19  n) (t_M_together_19  n) _ _ _ _ _ _ _ _ hf
def f_M_together_0  (a0 : Nat) (a1 : Int32) (h : mH) : Option (Int32 × mH) :=
  bd2 (f_M_in a1.toInt64 (0 : Int64) (1 : Int64) h) fun x3 h1 =>
  if x3 = 0 then
    some (((-1) : Int32), h1)
  else
    f_M_together_19  FU a0 a1 ((-1) : Int32) (0 : Int32) (0 : Int32) h1
set_option maxRecDepth 20000 in
theorem t_M_together_0 {sc : Nat × (Nat → Int32)}  (a0 : Nat) (a1 : Int32) (h : mH) (r : Int32) (h' : mH) (hf : f_M_together_0  a0 a1 h = some (r, h')) : G sc y_M_together prog_10_method_62_code 6 (some .int) 6 150 0 [(0, .ref a0), (1, .int a1)] [] h (some (.int r)) h' := by
  unfold f_M_together_0 at hf
  refine g_iload_n (pc := 0) 1 d_M_together_0 rfl rfl ?_
  refine g_i2l (pc := 1) d_M_together_1 ?_
  refine g_lconst (pc := 2) (0 : Int64) d_M_together_2 (by decide) ?_
  refine g_lconst (pc := 3) (1 : Int64) d_M_together_3 (by decide) ?_
  obtain ⟨x3, h1, e2, hf⟩ := bd2_e hf
  refine g_callS (pc := 4) [.long a1.toInt64, .long (0 : Int64), .long (1 : Int64)] (site_of si_M_in (by decide) (by decide)) wd_1061 wd_1062 d_M_together_4 (Nat.le_of_ble_eq_true rfl) (fun z => absurd z (by decide)) (fun z => absurd z (by decide)) (fun z => absurd z (by decide)) (c_M_in e2) rfl ?_
  refine g_st [.int x3] rfl ?_
  refine g_ifne (pc := 7) 12 d_M_together_7 (by decide) (fun c4 => ?_) (fun c4 => ?_)
  · replace hf := (if_neg c4).symm.trans hf
    refine g_iconst (pc := 12) ((-1) : Int32) d_M_together_12 (by decide) ?_
    refine g_istore_n (pc := 13) [(2, .int ((-1) : Int32)), (0, .ref a0), (1, .int a1)] d_M_together_13 rfl (Nat.le_of_ble_eq_true rfl) rfl ?_
    refine g_iconst (pc := 14) (0 : Int32) d_M_together_14 (by decide) ?_
    refine g_istore_n (pc := 15) [(3, .int (0 : Int32)), (2, .int ((-1) : Int32)), (0, .ref a0), (1, .int a1)] d_M_together_15 rfl (Nat.le_of_ble_eq_true rfl) rfl ?_
    refine g_iconst (pc := 16) (0 : Int32) d_M_together_16 (by decide) ?_
    refine g_istore (pc := 17) [(4, .int (0 : Int32)), (3, .int (0 : Int32)), (2, .int ((-1) : Int32)), (0, .ref a0), (1, .int a1)] d_M_together_17 (Nat.le_of_ble_eq_true rfl) rfl ?_
    refine g_lv [3, 4, 2, 1, 0] rfl ?_
    exact t_M_together_19  FU _ _ _ _ _ _ _ _  hf
  · replace hf := (if_pos c4).symm.trans hf
    refine g_iconst (pc := 10) ((-1) : Int32) d_M_together_10 (by decide) ?_
    obtain ⟨rfl, rfl⟩ := ret2 hf
    exact g_iret (pc := 11) rfl d_M_together_11
def f_M_together (a0 : Nat) (a1 : Int32) (h : mH) : Option (Int32 × mH) := f_M_together_0 a0 a1 h
theorem c_M_together {sc : Nat × (Nat → Int32)} {a0 : Nat} {a1 : Int32} {h : mH} {r : Int32} {h' : mH} (hf : f_M_together a0 a1 h = some (r, h')) : MM sc y_M_together prog_10_method_62_code 6 (some .int) 6 150 [.ref a0, .int a1] h (some (.int r)) h' :=
  mm_of_G (by decide) (Nat.le_of_ble_eq_true rfl) (t_M_together_0 _ _ _ _ _ hf)
/-! M triesOf (II)I -/
set_option maxRecDepth 100000 in
theorem dd_M_triesOf_0 : (decode prog_10_method_63_code 0 = .ok (.aload_n 0, 1)) ∧ (decode prog_10_method_63_code 1 = .ok (.iload_n 1, 1)) ∧ (decode prog_10_method_63_code 2 = .ok (.iload_n 2, 1)) ∧ (decode prog_10_method_63_code 3 = .ok (.invokevirtual 198, 3)) ∧ (decode prog_10_method_63_code 6 = .ok (.istore_n 3, 1)) ∧ (decode prog_10_method_63_code 7 = .ok (.iload_n 3, 1)) ∧ (decode prog_10_method_63_code 8 = .ok (.aload_n 0, 1)) ∧ (decode prog_10_method_63_code 9 = .ok (.iload_n 1, 1)) ∧ (decode prog_10_method_63_code 10 = .ok (.invokevirtual 201, 3)) ∧ (decode prog_10_method_63_code 13 = .ok (.if_icmp .ge 7, 3)) ∧ (decode prog_10_method_63_code 16 = .ok (.iload_n 3, 1)) ∧ (decode prog_10_method_63_code 17 = .ok (.goto 8, 3)) ∧ (decode prog_10_method_63_code 20 = .ok (.aload_n 0, 1)) ∧ (decode prog_10_method_63_code 21 = .ok (.iload_n 1, 1)) ∧ (decode prog_10_method_63_code 22 = .ok (.invokevirtual 201, 3)) ∧ (decode prog_10_method_63_code 25 = .ok (.ireturn, 1)) := by
  have h : List.drop 0 prog_10_method_63_code.data.toList = 0x2a :: _ := rfl
  refine ⟨zq_k_n 42 h rfl (zq_o_42 _), ?_⟩
  replace h := zq_nx1 (q := 1) h rfl
  refine ⟨zq_k_n 27 h rfl (zq_o_27 _), ?_⟩
  replace h := zq_nx1 (q := 2) h rfl
  refine ⟨zq_k_n 28 h rfl (zq_o_28 _), ?_⟩
  replace h := zq_nx1 (q := 3) h rfl
  refine ⟨zq_k_u2 182 (fun z => .invokevirtual z) 198 h rfl (zq_o_182 _) (by decide +kernel), ?_⟩
  replace h := zq_nx3 (q := 6) h rfl
  refine ⟨zq_k_n 62 h rfl (zq_o_62 _), ?_⟩
  replace h := zq_nx1 (q := 7) h rfl
  refine ⟨zq_k_n 29 h rfl (zq_o_29 _), ?_⟩
  replace h := zq_nx1 (q := 8) h rfl
  refine ⟨zq_k_n 42 h rfl (zq_o_42 _), ?_⟩
  replace h := zq_nx1 (q := 9) h rfl
  refine ⟨zq_k_n 27 h rfl (zq_o_27 _), ?_⟩
  replace h := zq_nx1 (q := 10) h rfl
  refine ⟨zq_k_u2 182 (fun z => .invokevirtual z) 201 h rfl (zq_o_182 _) (by decide +kernel), ?_⟩
  replace h := zq_nx3 (q := 13) h rfl
  refine ⟨zq_k_s2 162 (fun z => .if_icmp .ge z) 7 h rfl (zq_o_162 _) (by decide +kernel), ?_⟩
  replace h := zq_nx3 (q := 16) h rfl
  refine ⟨zq_k_n 29 h rfl (zq_o_29 _), ?_⟩
  replace h := zq_nx1 (q := 17) h rfl
  refine ⟨zq_k_s2 167 (fun z => .goto z) 8 h rfl (zq_o_167 _) (by decide +kernel), ?_⟩
  replace h := zq_nx3 (q := 20) h rfl
  refine ⟨zq_k_n 42 h rfl (zq_o_42 _), ?_⟩
  replace h := zq_nx1 (q := 21) h rfl
  refine ⟨zq_k_n 27 h rfl (zq_o_27 _), ?_⟩
  replace h := zq_nx1 (q := 22) h rfl
  refine ⟨zq_k_u2 182 (fun z => .invokevirtual z) 201 h rfl (zq_o_182 _) (by decide +kernel), ?_⟩
  replace h := zq_nx3 (q := 25) h rfl
  exact zq_k_n 172 h rfl (zq_o_172 _)
theorem d_M_triesOf_0 : decode prog_10_method_63_code 0 = .ok (.aload_n 0, 1) := dd_M_triesOf_0.1
theorem d_M_triesOf_1 : decode prog_10_method_63_code 1 = .ok (.iload_n 1, 1) := dd_M_triesOf_0.2.1
theorem d_M_triesOf_2 : decode prog_10_method_63_code 2 = .ok (.iload_n 2, 1) := dd_M_triesOf_0.2.2.1
theorem d_M_triesOf_3 : decode prog_10_method_63_code 3 = .ok (.invokevirtual 198, 3) := dd_M_triesOf_0.2.2.2.1
theorem d_M_triesOf_6 : decode prog_10_method_63_code 6 = .ok (.istore_n 3, 1) := dd_M_triesOf_0.2.2.2.2.1
theorem d_M_triesOf_7 : decode prog_10_method_63_code 7 = .ok (.iload_n 3, 1) := dd_M_triesOf_0.2.2.2.2.2.1
theorem d_M_triesOf_8 : decode prog_10_method_63_code 8 = .ok (.aload_n 0, 1) := dd_M_triesOf_0.2.2.2.2.2.2.1
theorem d_M_triesOf_9 : decode prog_10_method_63_code 9 = .ok (.iload_n 1, 1) := dd_M_triesOf_0.2.2.2.2.2.2.2.1
theorem d_M_triesOf_10 : decode prog_10_method_63_code 10 = .ok (.invokevirtual 201, 3) := dd_M_triesOf_0.2.2.2.2.2.2.2.2.1
theorem d_M_triesOf_13 : decode prog_10_method_63_code 13 = .ok (.if_icmp .ge 7, 3) := dd_M_triesOf_0.2.2.2.2.2.2.2.2.2.1
theorem d_M_triesOf_16 : decode prog_10_method_63_code 16 = .ok (.iload_n 3, 1) := dd_M_triesOf_0.2.2.2.2.2.2.2.2.2.2.1
theorem d_M_triesOf_17 : decode prog_10_method_63_code 17 = .ok (.goto 8, 3) := dd_M_triesOf_0.2.2.2.2.2.2.2.2.2.2.2.1
theorem d_M_triesOf_20 : decode prog_10_method_63_code 20 = .ok (.aload_n 0, 1) := dd_M_triesOf_0.2.2.2.2.2.2.2.2.2.2.2.2.1
theorem d_M_triesOf_21 : decode prog_10_method_63_code 21 = .ok (.iload_n 1, 1) := dd_M_triesOf_0.2.2.2.2.2.2.2.2.2.2.2.2.2.1
theorem d_M_triesOf_22 : decode prog_10_method_63_code 22 = .ok (.invokevirtual 201, 3) := dd_M_triesOf_0.2.2.2.2.2.2.2.2.2.2.2.2.2.2.1
theorem d_M_triesOf_25 : decode prog_10_method_63_code 25 = .ok (.ireturn, 1) := dd_M_triesOf_0.2.2.2.2.2.2.2.2.2.2.2.2.2.2.2
def f_M_triesOf_0  (a0 : Nat) (a1 : Int32) (a2 : Int32) (h : mH) : Option (Int32 × mH) :=
  bd1 (kC h a0 8) fun _ =>
  bd2 (f_M_roomOf a0 a1 a2 h) fun x5 h3 =>
  bd1 (kC h3 a0 8) fun _ =>
  bd2 (f_M_timeLeft a0 a1 h3) fun x10 h8 =>
  if x10 ≤ x5 then
    bd1 (kC h8 a0 8) fun _ =>
    bd2 (f_M_timeLeft a0 a1 h8) fun x15 h13 =>
    some (x15, h13)
  else
    some (x5, h8)
set_option maxRecDepth 20000 in
theorem t_M_triesOf_0 {sc : Nat × (Nat → Int32)}  (a0 : Nat) (a1 : Int32) (a2 : Int32) (h : mH) (r : Int32) (h' : mH) (hf : f_M_triesOf_0  a0 a1 a2 h = some (r, h')) : G sc y_M_triesOf prog_10_method_63_code 4 (some .int) 3 67 0 [(0, .ref a0), (1, .int a1), (2, .int a2)] [] h (some (.int r)) h' := by
  unfold f_M_triesOf_0 at hf
  refine g_aload_n (pc := 0) 0 d_M_triesOf_0 rfl rfl ?_
  refine g_iload_n (pc := 1) 1 d_M_triesOf_1 rfl rfl ?_
  refine g_iload_n (pc := 2) 2 d_M_triesOf_2 rfl rfl ?_
  obtain ⟨u2, e1, hf⟩ := bd1_e hf
  obtain ⟨x5, h3, e4, hf⟩ := bd2_e hf
  refine g_callV (pc := 3) (ci := 8) [.int a1, .int a2] (site_of si_M_roomOf (by decide) (by decide)) wd_1168 wd_1170 wp_51 d_M_triesOf_3 rfl e1 (Nat.le_of_ble_eq_true rfl) (fun z => absurd z (by decide)) (fun z => absurd z (by decide)) (fun z => absurd z (by decide)) (c_M_roomOf e4) rfl ?_
  refine g_st [.int x5] rfl ?_
  refine g_istore_n (pc := 6) [(3, .int x5), (0, .ref a0), (1, .int a1), (2, .int a2)] d_M_triesOf_6 rfl (Nat.le_of_ble_eq_true rfl) rfl ?_
  refine g_iload_n (pc := 7) 0 d_M_triesOf_7 rfl rfl ?_
  refine g_aload_n (pc := 8) 1 d_M_triesOf_8 rfl rfl ?_
  refine g_iload_n (pc := 9) 2 d_M_triesOf_9 rfl rfl ?_
  obtain ⟨u7, e6, hf⟩ := bd1_e hf
  obtain ⟨x10, h8, e9, hf⟩ := bd2_e hf
  refine g_callV (pc := 10) (ci := 8) [.int a1] (site_of si_M_timeLeft (by decide) (by decide)) wd_1172 wd_1174 wp_52 d_M_triesOf_10 rfl e6 (Nat.le_of_ble_eq_true rfl) (fun z => absurd z (by decide)) (fun z => absurd z (by decide)) (fun z => absurd z (by decide)) (c_M_timeLeft e9) rfl ?_
  refine g_st [.int x10, .int x5] rfl ?_
  refine g_icmpge (pc := 13) 20 d_M_triesOf_13 (by decide) (fun c16 => ?_) (fun c16 => ?_)
  · replace hf := (if_pos c16).symm.trans hf
    refine g_aload_n (pc := 20) 1 d_M_triesOf_20 rfl rfl ?_
    refine g_iload_n (pc := 21) 2 d_M_triesOf_21 rfl rfl ?_
    obtain ⟨u12, e11, hf⟩ := bd1_e hf
    obtain ⟨x15, h13, e14, hf⟩ := bd2_e hf
    refine g_callV (pc := 22) (ci := 8) [.int a1] (site_of si_M_timeLeft (by decide) (by decide)) wd_1172 wd_1174 wp_52 d_M_triesOf_22 rfl e11 (Nat.le_of_ble_eq_true rfl) (fun z => absurd z (by decide)) (fun z => absurd z (by decide)) (fun z => absurd z (by decide)) (c_M_timeLeft e14) rfl ?_
    refine g_st [.int x15] rfl ?_
    obtain ⟨rfl, rfl⟩ := ret2 hf
    exact g_iret (pc := 25) rfl d_M_triesOf_25
  · replace hf := (if_neg c16).symm.trans hf
    refine g_iload_n (pc := 16) 0 d_M_triesOf_16 rfl rfl ?_
    refine g_goto (pc := 17) 25 d_M_triesOf_17 (by decide) ?_
    obtain ⟨rfl, rfl⟩ := ret2 hf
    exact g_iret (pc := 25) rfl d_M_triesOf_25
def f_M_triesOf (a0 : Nat) (a1 : Int32) (a2 : Int32) (h : mH) : Option (Int32 × mH) := f_M_triesOf_0 a0 a1 a2 h
theorem c_M_triesOf {sc : Nat × (Nat → Int32)} {a0 : Nat} {a1 : Int32} {a2 : Int32} {h : mH} {r : Int32} {h' : mH} (hf : f_M_triesOf a0 a1 a2 h = some (r, h')) : MM sc y_M_triesOf prog_10_method_63_code 4 (some .int) 3 67 [.ref a0, .int a1, .int a2] h (some (.int r)) h' :=
  mm_of_G (by decide) (Nat.le_of_ble_eq_true rfl) (t_M_triesOf_0 _ _ _ _ _ _ hf)
/-! M kill (II)I -/
set_option maxRecDepth 100000 in
theorem dd_M_kill_0 : (decode prog_10_method_64_code 0 = .ok (.aload_n 0, 1)) ∧ (decode prog_10_method_64_code 1 = .ok (.iload_n 1, 1)) ∧ (decode prog_10_method_64_code 2 = .ok (.invokevirtual 210, 3)) ∧ (decode prog_10_method_64_code 5 = .ok (.ifCond .eq 13, 3)) ∧ (decode prog_10_method_64_code 8 = .ok (.iload_n 2, 1)) ∧ (decode prog_10_method_64_code 9 = .ok (.i2l, 1)) ∧ (decode prog_10_method_64_code 10 = .ok (.lconst 0, 1)) ∧ (decode prog_10_method_64_code 11 = .ok (.lconst 1, 1)) ∧ (decode prog_10_method_64_code 12 = .ok (.invokestatic 114, 3)) ∧ (decode prog_10_method_64_code 15 = .ok (.ifCond .ne 5, 3)) ∧ (decode prog_10_method_64_code 18 = .ok (.iconst (-1), 1)) ∧ (decode prog_10_method_64_code 19 = .ok (.ireturn, 1)) ∧ (decode prog_10_method_64_code 20 = .ok (.aload_n 0, 1)) ∧ (decode prog_10_method_64_code 21 = .ok (.iload_n 1, 1)) ∧ (decode prog_10_method_64_code 22 = .ok (.invokevirtual 191, 3)) ∧ (decode prog_10_method_64_code 25 = .ok (.ifCond .ne 6, 3)) ∧ (decode prog_10_method_64_code 28 = .ok (.bipush (-2), 2)) ∧ (decode prog_10_method_64_code 30 = .ok (.ireturn, 1)) ∧ (decode prog_10_method_64_code 31 = .ok (.bipush (-4), 2)) ∧ (decode prog_10_method_64_code 33 = .ok (.istore_n 3, 1)) ∧ (decode prog_10_method_64_code 34 = .ok (.bipush (-4), 2)) ∧ (decode prog_10_method_64_code 36 = .ok (.istore 4, 2)) ∧ (decode prog_10_method_64_code 38 = .ok (.iconst 0, 1)) ∧ (decode prog_10_method_64_code 39 = .ok (.istore 5, 2)) := by
  have h : List.drop 0 prog_10_method_64_code.data.toList = 0x2a :: _ := rfl
  refine ⟨zq_k_n 42 h rfl (zq_o_42 _), ?_⟩
  replace h := zq_nx1 (q := 1) h rfl
  refine ⟨zq_k_n 27 h rfl (zq_o_27 _), ?_⟩
  replace h := zq_nx1 (q := 2) h rfl
  refine ⟨zq_k_u2 182 (fun z => .invokevirtual z) 210 h rfl (zq_o_182 _) (by decide +kernel), ?_⟩
  replace h := zq_nx3 (q := 5) h rfl
  refine ⟨zq_k_s2 153 (fun z => .ifCond .eq z) 13 h rfl (zq_o_153 _) (by decide +kernel), ?_⟩
  replace h := zq_nx3 (q := 8) h rfl
  refine ⟨zq_k_n 28 h rfl (zq_o_28 _), ?_⟩
  replace h := zq_nx1 (q := 9) h rfl
  refine ⟨zq_k_n 133 h rfl (zq_o_133 _), ?_⟩
  replace h := zq_nx1 (q := 10) h rfl
  refine ⟨zq_k_n 9 h rfl (zq_o_9 _), ?_⟩
  replace h := zq_nx1 (q := 11) h rfl
  refine ⟨zq_k_n 10 h rfl (zq_o_10 _), ?_⟩
  replace h := zq_nx1 (q := 12) h rfl
  refine ⟨zq_k_u2 184 (fun z => .invokestatic z) 114 h rfl (zq_o_184 _) (by decide +kernel), ?_⟩
  replace h := zq_nx3 (q := 15) h rfl
  refine ⟨zq_k_s2 154 (fun z => .ifCond .ne z) 5 h rfl (zq_o_154 _) (by decide +kernel), ?_⟩
  replace h := zq_nx3 (q := 18) h rfl
  refine ⟨zq_k_n 2 h rfl (zq_o_2 _), ?_⟩
  replace h := zq_nx1 (q := 19) h rfl
  refine ⟨zq_k_n 172 h rfl (zq_o_172 _), ?_⟩
  replace h := zq_nx1 (q := 20) h rfl
  refine ⟨zq_k_n 42 h rfl (zq_o_42 _), ?_⟩
  replace h := zq_nx1 (q := 21) h rfl
  refine ⟨zq_k_n 27 h rfl (zq_o_27 _), ?_⟩
  replace h := zq_nx1 (q := 22) h rfl
  refine ⟨zq_k_u2 182 (fun z => .invokevirtual z) 191 h rfl (zq_o_182 _) (by decide +kernel), ?_⟩
  replace h := zq_nx3 (q := 25) h rfl
  refine ⟨zq_k_s2 154 (fun z => .ifCond .ne z) 6 h rfl (zq_o_154 _) (by decide +kernel), ?_⟩
  replace h := zq_nx3 (q := 28) h rfl
  refine ⟨zq_k_s1 16 (fun z => .bipush z) (-2) h rfl (zq_o_16 _) (by decide +kernel), ?_⟩
  replace h := zq_nx2 (q := 30) h rfl
  refine ⟨zq_k_n 172 h rfl (zq_o_172 _), ?_⟩
  replace h := zq_nx1 (q := 31) h rfl
  refine ⟨zq_k_s1 16 (fun z => .bipush z) (-4) h rfl (zq_o_16 _) (by decide +kernel), ?_⟩
  replace h := zq_nx2 (q := 33) h rfl
  refine ⟨zq_k_n 62 h rfl (zq_o_62 _), ?_⟩
  replace h := zq_nx1 (q := 34) h rfl
  refine ⟨zq_k_s1 16 (fun z => .bipush z) (-4) h rfl (zq_o_16 _) (by decide +kernel), ?_⟩
  replace h := zq_nx2 (q := 36) h rfl
  refine ⟨zq_k_u1 54 (fun z => .istore z) 4 h rfl (zq_o_54 _) (by decide +kernel), ?_⟩
  replace h := zq_nx2 (q := 38) h rfl
  refine ⟨zq_k_n 3 h rfl (zq_o_3 _), ?_⟩
  replace h := zq_nx1 (q := 39) h rfl
  exact zq_k_u1 54 (fun z => .istore z) 5 h rfl (zq_o_54 _) (by decide +kernel)
theorem d_M_kill_0 : decode prog_10_method_64_code 0 = .ok (.aload_n 0, 1) := dd_M_kill_0.1
theorem d_M_kill_1 : decode prog_10_method_64_code 1 = .ok (.iload_n 1, 1) := dd_M_kill_0.2.1
theorem d_M_kill_2 : decode prog_10_method_64_code 2 = .ok (.invokevirtual 210, 3) := dd_M_kill_0.2.2.1
theorem d_M_kill_5 : decode prog_10_method_64_code 5 = .ok (.ifCond .eq 13, 3) := dd_M_kill_0.2.2.2.1
theorem d_M_kill_8 : decode prog_10_method_64_code 8 = .ok (.iload_n 2, 1) := dd_M_kill_0.2.2.2.2.1
theorem d_M_kill_9 : decode prog_10_method_64_code 9 = .ok (.i2l, 1) := dd_M_kill_0.2.2.2.2.2.1
theorem d_M_kill_10 : decode prog_10_method_64_code 10 = .ok (.lconst 0, 1) := dd_M_kill_0.2.2.2.2.2.2.1
theorem d_M_kill_11 : decode prog_10_method_64_code 11 = .ok (.lconst 1, 1) := dd_M_kill_0.2.2.2.2.2.2.2.1
theorem d_M_kill_12 : decode prog_10_method_64_code 12 = .ok (.invokestatic 114, 3) := dd_M_kill_0.2.2.2.2.2.2.2.2.1
theorem d_M_kill_15 : decode prog_10_method_64_code 15 = .ok (.ifCond .ne 5, 3) := dd_M_kill_0.2.2.2.2.2.2.2.2.2.1
theorem d_M_kill_18 : decode prog_10_method_64_code 18 = .ok (.iconst (-1), 1) := dd_M_kill_0.2.2.2.2.2.2.2.2.2.2.1
theorem d_M_kill_19 : decode prog_10_method_64_code 19 = .ok (.ireturn, 1) := dd_M_kill_0.2.2.2.2.2.2.2.2.2.2.2.1
theorem d_M_kill_20 : decode prog_10_method_64_code 20 = .ok (.aload_n 0, 1) := dd_M_kill_0.2.2.2.2.2.2.2.2.2.2.2.2.1
theorem d_M_kill_21 : decode prog_10_method_64_code 21 = .ok (.iload_n 1, 1) := dd_M_kill_0.2.2.2.2.2.2.2.2.2.2.2.2.2.1
theorem d_M_kill_22 : decode prog_10_method_64_code 22 = .ok (.invokevirtual 191, 3) := dd_M_kill_0.2.2.2.2.2.2.2.2.2.2.2.2.2.2.1
theorem d_M_kill_25 : decode prog_10_method_64_code 25 = .ok (.ifCond .ne 6, 3) := dd_M_kill_0.2.2.2.2.2.2.2.2.2.2.2.2.2.2.2.1
theorem d_M_kill_28 : decode prog_10_method_64_code 28 = .ok (.bipush (-2), 2) := dd_M_kill_0.2.2.2.2.2.2.2.2.2.2.2.2.2.2.2.2.1
theorem d_M_kill_30 : decode prog_10_method_64_code 30 = .ok (.ireturn, 1) := dd_M_kill_0.2.2.2.2.2.2.2.2.2.2.2.2.2.2.2.2.2.1
theorem d_M_kill_31 : decode prog_10_method_64_code 31 = .ok (.bipush (-4), 2) := dd_M_kill_0.2.2.2.2.2.2.2.2.2.2.2.2.2.2.2.2.2.2.1
theorem d_M_kill_33 : decode prog_10_method_64_code 33 = .ok (.istore_n 3, 1) := dd_M_kill_0.2.2.2.2.2.2.2.2.2.2.2.2.2.2.2.2.2.2.2.1
theorem d_M_kill_34 : decode prog_10_method_64_code 34 = .ok (.bipush (-4), 2) := dd_M_kill_0.2.2.2.2.2.2.2.2.2.2.2.2.2.2.2.2.2.2.2.2.1
theorem d_M_kill_36 : decode prog_10_method_64_code 36 = .ok (.istore 4, 2) := dd_M_kill_0.2.2.2.2.2.2.2.2.2.2.2.2.2.2.2.2.2.2.2.2.2.1
theorem d_M_kill_38 : decode prog_10_method_64_code 38 = .ok (.iconst 0, 1) := dd_M_kill_0.2.2.2.2.2.2.2.2.2.2.2.2.2.2.2.2.2.2.2.2.2.2.1
theorem d_M_kill_39 : decode prog_10_method_64_code 39 = .ok (.istore 5, 2) := dd_M_kill_0.2.2.2.2.2.2.2.2.2.2.2.2.2.2.2.2.2.2.2.2.2.2.2
set_option maxRecDepth 100000 in
theorem dd_M_kill_41 : (decode prog_10_method_64_code 41 = .ok (.iload 5, 2)) ∧ (decode prog_10_method_64_code 43 = .ok (.iconst 1, 1)) ∧ (decode prog_10_method_64_code 44 = .ok (.aload_n 0, 1)) ∧ (decode prog_10_method_64_code 45 = .ok (.getfield 109, 3)) ∧ (decode prog_10_method_64_code 48 = .ok (.ishl, 1)) ∧ (decode prog_10_method_64_code 49 = .ok (.if_icmp .ge 117, 3)) ∧ (decode prog_10_method_64_code 52 = .ok (.iconst 0, 1)) ∧ (decode prog_10_method_64_code 53 = .ok (.istore 6, 2)) ∧ (decode prog_10_method_64_code 55 = .ok (.iconst 0, 1)) ∧ (decode prog_10_method_64_code 56 = .ok (.istore 7, 2)) ∧ (decode prog_10_method_64_code 58 = .ok (.iload 7, 2)) ∧ (decode prog_10_method_64_code 60 = .ok (.aload_n 0, 1)) ∧ (decode prog_10_method_64_code 61 = .ok (.getfield 109, 3)) ∧ (decode prog_10_method_64_code 64 = .ok (.if_icmp .ge 35, 3)) ∧ (decode prog_10_method_64_code 67 = .ok (.iload 6, 2)) ∧ (decode prog_10_method_64_code 69 = .ok (.iload 5, 2)) ∧ (decode prog_10_method_64_code 71 = .ok (.iload 7, 2)) ∧ (decode prog_10_method_64_code 73 = .ok (.ishr, 1)) ∧ (decode prog_10_method_64_code 74 = .ok (.iconst 1, 1)) ∧ (decode prog_10_method_64_code 75 = .ok (.iand, 1)) ∧ (decode prog_10_method_64_code 76 = .ok (.ifCond .ne 13, 3)) ∧ (decode prog_10_method_64_code 79 = .ok (.aload_n 0, 1)) ∧ (decode prog_10_method_64_code 80 = .ok (.iload 7, 2)) ∧ (decode prog_10_method_64_code 82 = .ok (.iload_n 1, 1)) := by
  have h : List.drop 41 prog_10_method_64_code.data.toList = 0x15 :: _ := rfl
  refine ⟨zq_k_u1 21 (fun z => .iload z) 5 h rfl (zq_o_21 _) (by decide +kernel), ?_⟩
  replace h := zq_nx2 (q := 43) h rfl
  refine ⟨zq_k_n 4 h rfl (zq_o_4 _), ?_⟩
  replace h := zq_nx1 (q := 44) h rfl
  refine ⟨zq_k_n 42 h rfl (zq_o_42 _), ?_⟩
  replace h := zq_nx1 (q := 45) h rfl
  refine ⟨zq_k_u2 180 (fun z => .getfield z) 109 h rfl (zq_o_180 _) (by decide +kernel), ?_⟩
  replace h := zq_nx3 (q := 48) h rfl
  refine ⟨zq_k_n 120 h rfl (zq_o_120 _), ?_⟩
  replace h := zq_nx1 (q := 49) h rfl
  refine ⟨zq_k_s2 162 (fun z => .if_icmp .ge z) 117 h rfl (zq_o_162 _) (by decide +kernel), ?_⟩
  replace h := zq_nx3 (q := 52) h rfl
  refine ⟨zq_k_n 3 h rfl (zq_o_3 _), ?_⟩
  replace h := zq_nx1 (q := 53) h rfl
  refine ⟨zq_k_u1 54 (fun z => .istore z) 6 h rfl (zq_o_54 _) (by decide +kernel), ?_⟩
  replace h := zq_nx2 (q := 55) h rfl
  refine ⟨zq_k_n 3 h rfl (zq_o_3 _), ?_⟩
  replace h := zq_nx1 (q := 56) h rfl
  refine ⟨zq_k_u1 54 (fun z => .istore z) 7 h rfl (zq_o_54 _) (by decide +kernel), ?_⟩
  replace h := zq_nx2 (q := 58) h rfl
  refine ⟨zq_k_u1 21 (fun z => .iload z) 7 h rfl (zq_o_21 _) (by decide +kernel), ?_⟩
  replace h := zq_nx2 (q := 60) h rfl
  refine ⟨zq_k_n 42 h rfl (zq_o_42 _), ?_⟩
  replace h := zq_nx1 (q := 61) h rfl
  refine ⟨zq_k_u2 180 (fun z => .getfield z) 109 h rfl (zq_o_180 _) (by decide +kernel), ?_⟩
  replace h := zq_nx3 (q := 64) h rfl
  refine ⟨zq_k_s2 162 (fun z => .if_icmp .ge z) 35 h rfl (zq_o_162 _) (by decide +kernel), ?_⟩
  replace h := zq_nx3 (q := 67) h rfl
  refine ⟨zq_k_u1 21 (fun z => .iload z) 6 h rfl (zq_o_21 _) (by decide +kernel), ?_⟩
  replace h := zq_nx2 (q := 69) h rfl
  refine ⟨zq_k_u1 21 (fun z => .iload z) 5 h rfl (zq_o_21 _) (by decide +kernel), ?_⟩
  replace h := zq_nx2 (q := 71) h rfl
  refine ⟨zq_k_u1 21 (fun z => .iload z) 7 h rfl (zq_o_21 _) (by decide +kernel), ?_⟩
  replace h := zq_nx2 (q := 73) h rfl
  refine ⟨zq_k_n 122 h rfl (zq_o_122 _), ?_⟩
  replace h := zq_nx1 (q := 74) h rfl
  refine ⟨zq_k_n 4 h rfl (zq_o_4 _), ?_⟩
  replace h := zq_nx1 (q := 75) h rfl
  refine ⟨zq_k_n 126 h rfl (zq_o_126 _), ?_⟩
  replace h := zq_nx1 (q := 76) h rfl
  refine ⟨zq_k_s2 154 (fun z => .ifCond .ne z) 13 h rfl (zq_o_154 _) (by decide +kernel), ?_⟩
  replace h := zq_nx3 (q := 79) h rfl
  refine ⟨zq_k_n 42 h rfl (zq_o_42 _), ?_⟩
  replace h := zq_nx1 (q := 80) h rfl
  refine ⟨zq_k_u1 21 (fun z => .iload z) 7 h rfl (zq_o_21 _) (by decide +kernel), ?_⟩
  replace h := zq_nx2 (q := 82) h rfl
  exact zq_k_n 27 h rfl (zq_o_27 _)
theorem d_M_kill_41 : decode prog_10_method_64_code 41 = .ok (.iload 5, 2) := dd_M_kill_41.1
theorem d_M_kill_43 : decode prog_10_method_64_code 43 = .ok (.iconst 1, 1) := dd_M_kill_41.2.1
theorem d_M_kill_44 : decode prog_10_method_64_code 44 = .ok (.aload_n 0, 1) := dd_M_kill_41.2.2.1
theorem d_M_kill_45 : decode prog_10_method_64_code 45 = .ok (.getfield 109, 3) := dd_M_kill_41.2.2.2.1
theorem d_M_kill_48 : decode prog_10_method_64_code 48 = .ok (.ishl, 1) := dd_M_kill_41.2.2.2.2.1
theorem d_M_kill_49 : decode prog_10_method_64_code 49 = .ok (.if_icmp .ge 117, 3) := dd_M_kill_41.2.2.2.2.2.1
theorem d_M_kill_52 : decode prog_10_method_64_code 52 = .ok (.iconst 0, 1) := dd_M_kill_41.2.2.2.2.2.2.1
theorem d_M_kill_53 : decode prog_10_method_64_code 53 = .ok (.istore 6, 2) := dd_M_kill_41.2.2.2.2.2.2.2.1
theorem d_M_kill_55 : decode prog_10_method_64_code 55 = .ok (.iconst 0, 1) := dd_M_kill_41.2.2.2.2.2.2.2.2.1
theorem d_M_kill_56 : decode prog_10_method_64_code 56 = .ok (.istore 7, 2) := dd_M_kill_41.2.2.2.2.2.2.2.2.2.1
theorem d_M_kill_58 : decode prog_10_method_64_code 58 = .ok (.iload 7, 2) := dd_M_kill_41.2.2.2.2.2.2.2.2.2.2.1
theorem d_M_kill_60 : decode prog_10_method_64_code 60 = .ok (.aload_n 0, 1) := dd_M_kill_41.2.2.2.2.2.2.2.2.2.2.2.1
theorem d_M_kill_61 : decode prog_10_method_64_code 61 = .ok (.getfield 109, 3) := dd_M_kill_41.2.2.2.2.2.2.2.2.2.2.2.2.1
theorem d_M_kill_64 : decode prog_10_method_64_code 64 = .ok (.if_icmp .ge 35, 3) := dd_M_kill_41.2.2.2.2.2.2.2.2.2.2.2.2.2.1
theorem d_M_kill_67 : decode prog_10_method_64_code 67 = .ok (.iload 6, 2) := dd_M_kill_41.2.2.2.2.2.2.2.2.2.2.2.2.2.2.1
theorem d_M_kill_69 : decode prog_10_method_64_code 69 = .ok (.iload 5, 2) := dd_M_kill_41.2.2.2.2.2.2.2.2.2.2.2.2.2.2.2.1
theorem d_M_kill_71 : decode prog_10_method_64_code 71 = .ok (.iload 7, 2) := dd_M_kill_41.2.2.2.2.2.2.2.2.2.2.2.2.2.2.2.2.1
theorem d_M_kill_73 : decode prog_10_method_64_code 73 = .ok (.ishr, 1) := dd_M_kill_41.2.2.2.2.2.2.2.2.2.2.2.2.2.2.2.2.2.1
theorem d_M_kill_74 : decode prog_10_method_64_code 74 = .ok (.iconst 1, 1) := dd_M_kill_41.2.2.2.2.2.2.2.2.2.2.2.2.2.2.2.2.2.2.1
theorem d_M_kill_75 : decode prog_10_method_64_code 75 = .ok (.iand, 1) := dd_M_kill_41.2.2.2.2.2.2.2.2.2.2.2.2.2.2.2.2.2.2.2.1
theorem d_M_kill_76 : decode prog_10_method_64_code 76 = .ok (.ifCond .ne 13, 3) := dd_M_kill_41.2.2.2.2.2.2.2.2.2.2.2.2.2.2.2.2.2.2.2.2.1
theorem d_M_kill_79 : decode prog_10_method_64_code 79 = .ok (.aload_n 0, 1) := dd_M_kill_41.2.2.2.2.2.2.2.2.2.2.2.2.2.2.2.2.2.2.2.2.2.1
theorem d_M_kill_80 : decode prog_10_method_64_code 80 = .ok (.iload 7, 2) := dd_M_kill_41.2.2.2.2.2.2.2.2.2.2.2.2.2.2.2.2.2.2.2.2.2.2.1
theorem d_M_kill_82 : decode prog_10_method_64_code 82 = .ok (.iload_n 1, 1) := dd_M_kill_41.2.2.2.2.2.2.2.2.2.2.2.2.2.2.2.2.2.2.2.2.2.2.2
set_option maxRecDepth 100000 in
theorem dd_M_kill_83 : (decode prog_10_method_64_code 83 = .ok (.invokevirtual 270, 3)) ∧ (decode prog_10_method_64_code 86 = .ok (.goto 4, 3)) ∧ (decode prog_10_method_64_code 89 = .ok (.iconst 0, 1)) ∧ (decode prog_10_method_64_code 90 = .ok (.iadd, 1)) ∧ (decode prog_10_method_64_code 91 = .ok (.istore 6, 2)) ∧ (decode prog_10_method_64_code 93 = .ok (.iinc 7 1, 3)) ∧ (decode prog_10_method_64_code 96 = .ok (.goto (-38), 3)) ∧ (decode prog_10_method_64_code 99 = .ok (.iload 6, 2)) ∧ (decode prog_10_method_64_code 101 = .ok (.aload_n 0, 1)) ∧ (decode prog_10_method_64_code 102 = .ok (.iload_n 1, 1)) ∧ (decode prog_10_method_64_code 103 = .ok (.invokevirtual 204, 3)) ∧ (decode prog_10_method_64_code 106 = .ok (.if_icmp .ge 22, 3)) ∧ (decode prog_10_method_64_code 109 = .ok (.iload_n 3, 1)) ∧ (decode prog_10_method_64_code 110 = .ok (.bipush (-4), 2)) ∧ (decode prog_10_method_64_code 112 = .ok (.if_icmp .eq 12, 3)) ∧ (decode prog_10_method_64_code 115 = .ok (.iload 5, 2)) ∧ (decode prog_10_method_64_code 117 = .ok (.invokestatic 237, 3)) ∧ (decode prog_10_method_64_code 120 = .ok (.iload_n 3, 1)) ∧ (decode prog_10_method_64_code 121 = .ok (.if_icmp .ge 7, 3)) ∧ (decode prog_10_method_64_code 124 = .ok (.iconst 1, 1)) ∧ (decode prog_10_method_64_code 125 = .ok (.goto 4, 3)) ∧ (decode prog_10_method_64_code 128 = .ok (.iconst 0, 1)) ∧ (decode prog_10_method_64_code 129 = .ok (.istore 7, 2)) ∧ (decode prog_10_method_64_code 131 = .ok (.iload 7, 2)) := by
  have h : List.drop 83 prog_10_method_64_code.data.toList = 0xb6 :: _ := rfl
  refine ⟨zq_k_u2 182 (fun z => .invokevirtual z) 270 h rfl (zq_o_182 _) (by decide +kernel), ?_⟩
  replace h := zq_nx3 (q := 86) h rfl
  refine ⟨zq_k_s2 167 (fun z => .goto z) 4 h rfl (zq_o_167 _) (by decide +kernel), ?_⟩
  replace h := zq_nx3 (q := 89) h rfl
  refine ⟨zq_k_n 3 h rfl (zq_o_3 _), ?_⟩
  replace h := zq_nx1 (q := 90) h rfl
  refine ⟨zq_k_n 96 h rfl (zq_o_96 _), ?_⟩
  replace h := zq_nx1 (q := 91) h rfl
  refine ⟨zq_k_u1 54 (fun z => .istore z) 6 h rfl (zq_o_54 _) (by decide +kernel), ?_⟩
  replace h := zq_nx2 (q := 93) h rfl
  refine ⟨zq_k_iinc 7 1 h rfl (zq_o_132 _) (by decide +kernel) (by decide +kernel), ?_⟩
  replace h := zq_nx3 (q := 96) h rfl
  refine ⟨zq_k_s2 167 (fun z => .goto z) (-38) h rfl (zq_o_167 _) (by decide +kernel), ?_⟩
  replace h := zq_nx3 (q := 99) h rfl
  refine ⟨zq_k_u1 21 (fun z => .iload z) 6 h rfl (zq_o_21 _) (by decide +kernel), ?_⟩
  replace h := zq_nx2 (q := 101) h rfl
  refine ⟨zq_k_n 42 h rfl (zq_o_42 _), ?_⟩
  replace h := zq_nx1 (q := 102) h rfl
  refine ⟨zq_k_n 27 h rfl (zq_o_27 _), ?_⟩
  replace h := zq_nx1 (q := 103) h rfl
  refine ⟨zq_k_u2 182 (fun z => .invokevirtual z) 204 h rfl (zq_o_182 _) (by decide +kernel), ?_⟩
  replace h := zq_nx3 (q := 106) h rfl
  refine ⟨zq_k_s2 162 (fun z => .if_icmp .ge z) 22 h rfl (zq_o_162 _) (by decide +kernel), ?_⟩
  replace h := zq_nx3 (q := 109) h rfl
  refine ⟨zq_k_n 29 h rfl (zq_o_29 _), ?_⟩
  replace h := zq_nx1 (q := 110) h rfl
  refine ⟨zq_k_s1 16 (fun z => .bipush z) (-4) h rfl (zq_o_16 _) (by decide +kernel), ?_⟩
  replace h := zq_nx2 (q := 112) h rfl
  refine ⟨zq_k_s2 159 (fun z => .if_icmp .eq z) 12 h rfl (zq_o_159 _) (by decide +kernel), ?_⟩
  replace h := zq_nx3 (q := 115) h rfl
  refine ⟨zq_k_u1 21 (fun z => .iload z) 5 h rfl (zq_o_21 _) (by decide +kernel), ?_⟩
  replace h := zq_nx2 (q := 117) h rfl
  refine ⟨zq_k_u2 184 (fun z => .invokestatic z) 237 h rfl (zq_o_184 _) (by decide +kernel), ?_⟩
  replace h := zq_nx3 (q := 120) h rfl
  refine ⟨zq_k_n 29 h rfl (zq_o_29 _), ?_⟩
  replace h := zq_nx1 (q := 121) h rfl
  refine ⟨zq_k_s2 162 (fun z => .if_icmp .ge z) 7 h rfl (zq_o_162 _) (by decide +kernel), ?_⟩
  replace h := zq_nx3 (q := 124) h rfl
  refine ⟨zq_k_n 4 h rfl (zq_o_4 _), ?_⟩
  replace h := zq_nx1 (q := 125) h rfl
  refine ⟨zq_k_s2 167 (fun z => .goto z) 4 h rfl (zq_o_167 _) (by decide +kernel), ?_⟩
  replace h := zq_nx3 (q := 128) h rfl
  refine ⟨zq_k_n 3 h rfl (zq_o_3 _), ?_⟩
  replace h := zq_nx1 (q := 129) h rfl
  refine ⟨zq_k_u1 54 (fun z => .istore z) 7 h rfl (zq_o_54 _) (by decide +kernel), ?_⟩
  replace h := zq_nx2 (q := 131) h rfl
  exact zq_k_u1 21 (fun z => .iload z) 7 h rfl (zq_o_21 _) (by decide +kernel)
theorem d_M_kill_83 : decode prog_10_method_64_code 83 = .ok (.invokevirtual 270, 3) := dd_M_kill_83.1
theorem d_M_kill_86 : decode prog_10_method_64_code 86 = .ok (.goto 4, 3) := dd_M_kill_83.2.1
theorem d_M_kill_89 : decode prog_10_method_64_code 89 = .ok (.iconst 0, 1) := dd_M_kill_83.2.2.1
theorem d_M_kill_90 : decode prog_10_method_64_code 90 = .ok (.iadd, 1) := dd_M_kill_83.2.2.2.1
theorem d_M_kill_91 : decode prog_10_method_64_code 91 = .ok (.istore 6, 2) := dd_M_kill_83.2.2.2.2.1
theorem d_M_kill_93 : decode prog_10_method_64_code 93 = .ok (.iinc 7 1, 3) := dd_M_kill_83.2.2.2.2.2.1
theorem d_M_kill_96 : decode prog_10_method_64_code 96 = .ok (.goto (-38), 3) := dd_M_kill_83.2.2.2.2.2.2.1
theorem d_M_kill_99 : decode prog_10_method_64_code 99 = .ok (.iload 6, 2) := dd_M_kill_83.2.2.2.2.2.2.2.1
theorem d_M_kill_101 : decode prog_10_method_64_code 101 = .ok (.aload_n 0, 1) := dd_M_kill_83.2.2.2.2.2.2.2.2.1
theorem d_M_kill_102 : decode prog_10_method_64_code 102 = .ok (.iload_n 1, 1) := dd_M_kill_83.2.2.2.2.2.2.2.2.2.1
theorem d_M_kill_103 : decode prog_10_method_64_code 103 = .ok (.invokevirtual 204, 3) := dd_M_kill_83.2.2.2.2.2.2.2.2.2.2.1
theorem d_M_kill_106 : decode prog_10_method_64_code 106 = .ok (.if_icmp .ge 22, 3) := dd_M_kill_83.2.2.2.2.2.2.2.2.2.2.2.1
theorem d_M_kill_109 : decode prog_10_method_64_code 109 = .ok (.iload_n 3, 1) := dd_M_kill_83.2.2.2.2.2.2.2.2.2.2.2.2.1
theorem d_M_kill_110 : decode prog_10_method_64_code 110 = .ok (.bipush (-4), 2) := dd_M_kill_83.2.2.2.2.2.2.2.2.2.2.2.2.2.1
theorem d_M_kill_112 : decode prog_10_method_64_code 112 = .ok (.if_icmp .eq 12, 3) := dd_M_kill_83.2.2.2.2.2.2.2.2.2.2.2.2.2.2.1
theorem d_M_kill_115 : decode prog_10_method_64_code 115 = .ok (.iload 5, 2) := dd_M_kill_83.2.2.2.2.2.2.2.2.2.2.2.2.2.2.2.1
theorem d_M_kill_117 : decode prog_10_method_64_code 117 = .ok (.invokestatic 237, 3) := dd_M_kill_83.2.2.2.2.2.2.2.2.2.2.2.2.2.2.2.2.1
theorem d_M_kill_120 : decode prog_10_method_64_code 120 = .ok (.iload_n 3, 1) := dd_M_kill_83.2.2.2.2.2.2.2.2.2.2.2.2.2.2.2.2.2.1
theorem d_M_kill_121 : decode prog_10_method_64_code 121 = .ok (.if_icmp .ge 7, 3) := dd_M_kill_83.2.2.2.2.2.2.2.2.2.2.2.2.2.2.2.2.2.2.1
theorem d_M_kill_124 : decode prog_10_method_64_code 124 = .ok (.iconst 1, 1) := dd_M_kill_83.2.2.2.2.2.2.2.2.2.2.2.2.2.2.2.2.2.2.2.1
theorem d_M_kill_125 : decode prog_10_method_64_code 125 = .ok (.goto 4, 3) := dd_M_kill_83.2.2.2.2.2.2.2.2.2.2.2.2.2.2.2.2.2.2.2.2.1
theorem d_M_kill_128 : decode prog_10_method_64_code 128 = .ok (.iconst 0, 1) := dd_M_kill_83.2.2.2.2.2.2.2.2.2.2.2.2.2.2.2.2.2.2.2.2.2.1
theorem d_M_kill_129 : decode prog_10_method_64_code 129 = .ok (.istore 7, 2) := dd_M_kill_83.2.2.2.2.2.2.2.2.2.2.2.2.2.2.2.2.2.2.2.2.2.2.1
theorem d_M_kill_131 : decode prog_10_method_64_code 131 = .ok (.iload 7, 2) := dd_M_kill_83.2.2.2.2.2.2.2.2.2.2.2.2.2.2.2.2.2.2.2.2.2.2.2
set_option maxRecDepth 100000 in
theorem dd_M_kill_133 : (decode prog_10_method_64_code 133 = .ok (.ifCond .eq 8, 3)) ∧ (decode prog_10_method_64_code 136 = .ok (.iload 5, 2)) ∧ (decode prog_10_method_64_code 138 = .ok (.goto 5, 3)) ∧ (decode prog_10_method_64_code 141 = .ok (.iload 4, 2)) ∧ (decode prog_10_method_64_code 143 = .ok (.istore 4, 2)) ∧ (decode prog_10_method_64_code 145 = .ok (.iload 7, 2)) ∧ (decode prog_10_method_64_code 147 = .ok (.ifCond .eq 11, 3)) ∧ (decode prog_10_method_64_code 150 = .ok (.iload 5, 2)) ∧ (decode prog_10_method_64_code 152 = .ok (.invokestatic 237, 3)) ∧ (decode prog_10_method_64_code 155 = .ok (.goto 4, 3)) ∧ (decode prog_10_method_64_code 158 = .ok (.iload_n 3, 1)) ∧ (decode prog_10_method_64_code 159 = .ok (.istore_n 3, 1)) ∧ (decode prog_10_method_64_code 160 = .ok (.iinc 5 1, 3)) ∧ (decode prog_10_method_64_code 163 = .ok (.goto (-122), 3)) ∧ (decode prog_10_method_64_code 166 = .ok (.iload_n 2, 1)) ∧ (decode prog_10_method_64_code 167 = .ok (.ifCond .ne 7, 3)) ∧ (decode prog_10_method_64_code 170 = .ok (.iload_n 3, 1)) ∧ (decode prog_10_method_64_code 171 = .ok (.goto 5, 3)) ∧ (decode prog_10_method_64_code 174 = .ok (.iload 4, 2)) ∧ (decode prog_10_method_64_code 176 = .ok (.ireturn, 1)) := by
  have h : List.drop 133 prog_10_method_64_code.data.toList = 0x99 :: _ := rfl
  refine ⟨zq_k_s2 153 (fun z => .ifCond .eq z) 8 h rfl (zq_o_153 _) (by decide +kernel), ?_⟩
  replace h := zq_nx3 (q := 136) h rfl
  refine ⟨zq_k_u1 21 (fun z => .iload z) 5 h rfl (zq_o_21 _) (by decide +kernel), ?_⟩
  replace h := zq_nx2 (q := 138) h rfl
  refine ⟨zq_k_s2 167 (fun z => .goto z) 5 h rfl (zq_o_167 _) (by decide +kernel), ?_⟩
  replace h := zq_nx3 (q := 141) h rfl
  refine ⟨zq_k_u1 21 (fun z => .iload z) 4 h rfl (zq_o_21 _) (by decide +kernel), ?_⟩
  replace h := zq_nx2 (q := 143) h rfl
  refine ⟨zq_k_u1 54 (fun z => .istore z) 4 h rfl (zq_o_54 _) (by decide +kernel), ?_⟩
  replace h := zq_nx2 (q := 145) h rfl
  refine ⟨zq_k_u1 21 (fun z => .iload z) 7 h rfl (zq_o_21 _) (by decide +kernel), ?_⟩
  replace h := zq_nx2 (q := 147) h rfl
  refine ⟨zq_k_s2 153 (fun z => .ifCond .eq z) 11 h rfl (zq_o_153 _) (by decide +kernel), ?_⟩
  replace h := zq_nx3 (q := 150) h rfl
  refine ⟨zq_k_u1 21 (fun z => .iload z) 5 h rfl (zq_o_21 _) (by decide +kernel), ?_⟩
  replace h := zq_nx2 (q := 152) h rfl
  refine ⟨zq_k_u2 184 (fun z => .invokestatic z) 237 h rfl (zq_o_184 _) (by decide +kernel), ?_⟩
  replace h := zq_nx3 (q := 155) h rfl
  refine ⟨zq_k_s2 167 (fun z => .goto z) 4 h rfl (zq_o_167 _) (by decide +kernel), ?_⟩
  replace h := zq_nx3 (q := 158) h rfl
  refine ⟨zq_k_n 29 h rfl (zq_o_29 _), ?_⟩
  replace h := zq_nx1 (q := 159) h rfl
  refine ⟨zq_k_n 62 h rfl (zq_o_62 _), ?_⟩
  replace h := zq_nx1 (q := 160) h rfl
  refine ⟨zq_k_iinc 5 1 h rfl (zq_o_132 _) (by decide +kernel) (by decide +kernel), ?_⟩
  replace h := zq_nx3 (q := 163) h rfl
  refine ⟨zq_k_s2 167 (fun z => .goto z) (-122) h rfl (zq_o_167 _) (by decide +kernel), ?_⟩
  replace h := zq_nx3 (q := 166) h rfl
  refine ⟨zq_k_n 28 h rfl (zq_o_28 _), ?_⟩
  replace h := zq_nx1 (q := 167) h rfl
  refine ⟨zq_k_s2 154 (fun z => .ifCond .ne z) 7 h rfl (zq_o_154 _) (by decide +kernel), ?_⟩
  replace h := zq_nx3 (q := 170) h rfl
  refine ⟨zq_k_n 29 h rfl (zq_o_29 _), ?_⟩
  replace h := zq_nx1 (q := 171) h rfl
  refine ⟨zq_k_s2 167 (fun z => .goto z) 5 h rfl (zq_o_167 _) (by decide +kernel), ?_⟩
  replace h := zq_nx3 (q := 174) h rfl
  refine ⟨zq_k_u1 21 (fun z => .iload z) 4 h rfl (zq_o_21 _) (by decide +kernel), ?_⟩
  replace h := zq_nx2 (q := 176) h rfl
  exact zq_k_n 172 h rfl (zq_o_172 _)
theorem d_M_kill_133 : decode prog_10_method_64_code 133 = .ok (.ifCond .eq 8, 3) := dd_M_kill_133.1
theorem d_M_kill_136 : decode prog_10_method_64_code 136 = .ok (.iload 5, 2) := dd_M_kill_133.2.1
theorem d_M_kill_138 : decode prog_10_method_64_code 138 = .ok (.goto 5, 3) := dd_M_kill_133.2.2.1
theorem d_M_kill_141 : decode prog_10_method_64_code 141 = .ok (.iload 4, 2) := dd_M_kill_133.2.2.2.1
theorem d_M_kill_143 : decode prog_10_method_64_code 143 = .ok (.istore 4, 2) := dd_M_kill_133.2.2.2.2.1
theorem d_M_kill_145 : decode prog_10_method_64_code 145 = .ok (.iload 7, 2) := dd_M_kill_133.2.2.2.2.2.1
theorem d_M_kill_147 : decode prog_10_method_64_code 147 = .ok (.ifCond .eq 11, 3) := dd_M_kill_133.2.2.2.2.2.2.1
theorem d_M_kill_150 : decode prog_10_method_64_code 150 = .ok (.iload 5, 2) := dd_M_kill_133.2.2.2.2.2.2.2.1
theorem d_M_kill_152 : decode prog_10_method_64_code 152 = .ok (.invokestatic 237, 3) := dd_M_kill_133.2.2.2.2.2.2.2.2.1
theorem d_M_kill_155 : decode prog_10_method_64_code 155 = .ok (.goto 4, 3) := dd_M_kill_133.2.2.2.2.2.2.2.2.2.1
theorem d_M_kill_158 : decode prog_10_method_64_code 158 = .ok (.iload_n 3, 1) := dd_M_kill_133.2.2.2.2.2.2.2.2.2.2.1
theorem d_M_kill_159 : decode prog_10_method_64_code 159 = .ok (.istore_n 3, 1) := dd_M_kill_133.2.2.2.2.2.2.2.2.2.2.2.1
theorem d_M_kill_160 : decode prog_10_method_64_code 160 = .ok (.iinc 5 1, 3) := dd_M_kill_133.2.2.2.2.2.2.2.2.2.2.2.2.1
theorem d_M_kill_163 : decode prog_10_method_64_code 163 = .ok (.goto (-122), 3) := dd_M_kill_133.2.2.2.2.2.2.2.2.2.2.2.2.2.1
theorem d_M_kill_166 : decode prog_10_method_64_code 166 = .ok (.iload_n 2, 1) := dd_M_kill_133.2.2.2.2.2.2.2.2.2.2.2.2.2.2.1
theorem d_M_kill_167 : decode prog_10_method_64_code 167 = .ok (.ifCond .ne 7, 3) := dd_M_kill_133.2.2.2.2.2.2.2.2.2.2.2.2.2.2.2.1
theorem d_M_kill_170 : decode prog_10_method_64_code 170 = .ok (.iload_n 3, 1) := dd_M_kill_133.2.2.2.2.2.2.2.2.2.2.2.2.2.2.2.2.1
theorem d_M_kill_171 : decode prog_10_method_64_code 171 = .ok (.goto 5, 3) := dd_M_kill_133.2.2.2.2.2.2.2.2.2.2.2.2.2.2.2.2.2.1
theorem d_M_kill_174 : decode prog_10_method_64_code 174 = .ok (.iload 4, 2) := dd_M_kill_133.2.2.2.2.2.2.2.2.2.2.2.2.2.2.2.2.2.2.1
theorem d_M_kill_176 : decode prog_10_method_64_code 176 = .ok (.ireturn, 1) := dd_M_kill_133.2.2.2.2.2.2.2.2.2.2.2.2.2.2.2.2.2.2.2
def f_M_kill_159 (rec41 : Nat → Int32 → Int32 → Int32 → Int32 → Int32 → mH → Option (Int32 × mH)) (b0 : Nat) (b1 : Int32) (b2 : Int32) (b4 : Int32) (b5 : Int32) (s0 : Int32) (h : mH) : Option (Int32 × mH) :=
  rec41 b0 b1 b2 s0 b4 (b5 + (1 : Int32)) h
set_option maxRecDepth 20000 in
theorem t_M_kill_159 {sc : Nat × (Nat → Int32)} (rec41 : Nat → Int32 → Int32 → Int32 → Int32 → Int32 → mH → Option (Int32 × mH)) (hrec41 : ∀ (b0 : Nat) (b1 : Int32) (b2 : Int32) (b3 : Int32) (b4 : Int32) (b5 : Int32) (h : mH) (r : Int32) (h' : mH), rec41 b0 b1 b2 b3 b4 b5 h = some (r, h') → G sc y_M_kill prog_10_method_64_code 8 (some .int) 4 90 41 [(0, .ref b0), (1, .int b1), (2, .int b2), (3, .int b3), (4, .int b4), (5, .int b5)] [] h (some (.int r)) h') (b0 : Nat) (b1 : Int32) (b2 : Int32) (b4 : Int32) (b5 : Int32) (s0 : Int32) (h : mH) (r : Int32) (h' : mH) (hf : f_M_kill_159 rec41 b0 b1 b2 b4 b5 s0 h = some (r, h')) : G sc y_M_kill prog_10_method_64_code 8 (some .int) 4 90 159 [(0, .ref b0), (1, .int b1), (2, .int b2), (4, .int b4), (5, .int b5)] [.int s0] h (some (.int r)) h' := by
  unfold f_M_kill_159 at hf
  refine g_istore_n (pc := 159) [(3, .int s0), (0, .ref b0), (1, .int b1), (2, .int b2), (4, .int b4), (5, .int b5)] d_M_kill_159 rfl (Nat.le_of_ble_eq_true rfl) rfl ?_
  refine g_iinc (pc := 160) 5 (b5 + (1 : Int32)) [(5, .int (b5 + (1 : Int32))), (3, .int s0), (0, .ref b0), (1, .int b1), (2, .int b2), (4, .int b4)] d_M_kill_160 rfl rfl (Nat.le_of_ble_eq_true rfl) rfl ?_
  refine g_goto (pc := 163) 41 d_M_kill_163 (by decide) ?_
  refine g_lv [2, 3, 4, 1, 5, 0] rfl ?_
  exact hrec41 _ _ _ _ _ _ _ _ _  hf
def f_M_kill_143 (rec41 : Nat → Int32 → Int32 → Int32 → Int32 → Int32 → mH → Option (Int32 × mH)) (b0 : Nat) (b1 : Int32) (b2 : Int32) (b3 : Int32) (b5 : Int32) (b7 : Int32) (s0 : Int32) (h : mH) : Option (Int32 × mH) :=
  if b7 = 0 then
    f_M_kill_159 rec41 b0 b1 b2 s0 b5 b3 h
  else
    bd2 (f_M_bitsOf b5 h) fun x44 h42 =>
    f_M_kill_159 rec41 b0 b1 b2 s0 b5 x44 h42
set_option maxRecDepth 20000 in
theorem t_M_kill_143 {sc : Nat × (Nat → Int32)} (rec41 : Nat → Int32 → Int32 → Int32 → Int32 → Int32 → mH → Option (Int32 × mH)) (hrec41 : ∀ (b0 : Nat) (b1 : Int32) (b2 : Int32) (b3 : Int32) (b4 : Int32) (b5 : Int32) (h : mH) (r : Int32) (h' : mH), rec41 b0 b1 b2 b3 b4 b5 h = some (r, h') → G sc y_M_kill prog_10_method_64_code 8 (some .int) 4 90 41 [(0, .ref b0), (1, .int b1), (2, .int b2), (3, .int b3), (4, .int b4), (5, .int b5)] [] h (some (.int r)) h') (b0 : Nat) (b1 : Int32) (b2 : Int32) (b3 : Int32) (b5 : Int32) (b7 : Int32) (s0 : Int32) (h : mH) (r : Int32) (h' : mH) (hf : f_M_kill_143 rec41 b0 b1 b2 b3 b5 b7 s0 h = some (r, h')) : G sc y_M_kill prog_10_method_64_code 8 (some .int) 4 90 143 [(0, .ref b0), (1, .int b1), (2, .int b2), (3, .int b3), (5, .int b5), (7, .int b7)] [.int s0] h (some (.int r)) h' := by
  unfold f_M_kill_143 at hf
  refine g_istore (pc := 143) [(4, .int s0), (0, .ref b0), (1, .int b1), (2, .int b2), (3, .int b3), (5, .int b5), (7, .int b7)] d_M_kill_143 (Nat.le_of_ble_eq_true rfl) rfl ?_
  refine g_iload (pc := 145) 6 d_M_kill_145 rfl ?_
  refine g_ifeq (pc := 147) 158 d_M_kill_147 (by decide) (fun c45 => ?_) (fun c45 => ?_)
  · replace hf := (if_pos c45).symm.trans hf
    refine g_iload_n (pc := 158) 4 d_M_kill_158 rfl rfl ?_
    refine g_lv [1, 2, 3, 0, 5] rfl ?_
    exact t_M_kill_159 rec41 hrec41 _ _ _ _ _ _ _ _ _  hf
  · replace hf := (if_neg c45).symm.trans hf
    refine g_iload (pc := 150) 5 d_M_kill_150 rfl ?_
    obtain ⟨x44, h42, e43, hf⟩ := bd2_e hf
    refine g_callS (pc := 152) [.int b5] (site_of si_M_bitsOf (by decide) (by decide)) wd_1230 wd_1231 d_M_kill_152 (Nat.le_of_ble_eq_true rfl) (fun z => absurd z (by decide)) (fun z => absurd z (by decide)) (fun z => absurd z (by decide)) (c_M_bitsOf e43) rfl ?_
    refine g_st [.int x44] rfl ?_
    refine g_goto (pc := 155) 159 d_M_kill_155 (by decide) ?_
    refine g_lv [1, 2, 3, 0, 5] rfl ?_
    exact t_M_kill_159 rec41 hrec41 _ _ _ _ _ _ _ _ _  hf
def f_M_kill_129 (rec41 : Nat → Int32 → Int32 → Int32 → Int32 → Int32 → mH → Option (Int32 × mH)) (b0 : Nat) (b1 : Int32) (b2 : Int32) (b3 : Int32) (b4 : Int32) (b5 : Int32) (s0 : Int32) (h : mH) : Option (Int32 × mH) :=
  if s0 = 0 then
    f_M_kill_143 rec41 b0 b1 b2 b3 b5 s0 b4 h
  else
    f_M_kill_143 rec41 b0 b1 b2 b3 b5 s0 b5 h
set_option maxRecDepth 20000 in
theorem t_M_kill_129 {sc : Nat × (Nat → Int32)} (rec41 : Nat → Int32 → Int32 → Int32 → Int32 → Int32 → mH → Option (Int32 × mH)) (hrec41 : ∀ (b0 : Nat) (b1 : Int32) (b2 : Int32) (b3 : Int32) (b4 : Int32) (b5 : Int32) (h : mH) (r : Int32) (h' : mH), rec41 b0 b1 b2 b3 b4 b5 h = some (r, h') → G sc y_M_kill prog_10_method_64_code 8 (some .int) 4 90 41 [(0, .ref b0), (1, .int b1), (2, .int b2), (3, .int b3), (4, .int b4), (5, .int b5)] [] h (some (.int r)) h') (b0 : Nat) (b1 : Int32) (b2 : Int32) (b3 : Int32) (b4 : Int32) (b5 : Int32) (s0 : Int32) (h : mH) (r : Int32) (h' : mH) (hf : f_M_kill_129 rec41 b0 b1 b2 b3 b4 b5 s0 h = some (r, h')) : G sc y_M_kill prog_10_method_64_code 8 (some .int) 4 90 129 [(0, .ref b0), (1, .int b1), (2, .int b2), (3, .int b3), (4, .int b4), (5, .int b5)] [.int s0] h (some (.int r)) h' := by
  unfold f_M_kill_129 at hf
  refine g_istore (pc := 129) [(7, .int s0), (0, .ref b0), (1, .int b1), (2, .int b2), (3, .int b3), (4, .int b4), (5, .int b5)] d_M_kill_129 (Nat.le_of_ble_eq_true rfl) rfl ?_
  refine g_iload (pc := 131) 0 d_M_kill_131 rfl ?_
  refine g_ifeq (pc := 133) 141 d_M_kill_133 (by decide) (fun c41 => ?_) (fun c41 => ?_)
  · replace hf := (if_pos c41).symm.trans hf
    refine g_iload (pc := 141) 5 d_M_kill_141 rfl ?_
    refine g_lv [1, 2, 3, 4, 6, 0] rfl ?_
    exact t_M_kill_143 rec41 hrec41 _ _ _ _ _ _ _ _ _ _  hf
  · replace hf := (if_neg c41).symm.trans hf
    refine g_iload (pc := 136) 6 d_M_kill_136 rfl ?_
    refine g_goto (pc := 138) 143 d_M_kill_138 (by decide) ?_
    refine g_lv [1, 2, 3, 4, 6, 0] rfl ?_
    exact t_M_kill_143 rec41 hrec41 _ _ _ _ _ _ _ _ _ _  hf
def f_M_kill_128 (rec41 : Nat → Int32 → Int32 → Int32 → Int32 → Int32 → mH → Option (Int32 × mH)) (b0 : Nat) (b1 : Int32) (b2 : Int32) (b3 : Int32) (b4 : Int32) (b5 : Int32) (h : mH) : Option (Int32 × mH) :=
  f_M_kill_129 rec41 b0 b1 b2 b3 b4 b5 (0 : Int32) h
set_option maxRecDepth 20000 in
theorem t_M_kill_128 {sc : Nat × (Nat → Int32)} (rec41 : Nat → Int32 → Int32 → Int32 → Int32 → Int32 → mH → Option (Int32 × mH)) (hrec41 : ∀ (b0 : Nat) (b1 : Int32) (b2 : Int32) (b3 : Int32) (b4 : Int32) (b5 : Int32) (h : mH) (r : Int32) (h' : mH), rec41 b0 b1 b2 b3 b4 b5 h = some (r, h') → G sc y_M_kill prog_10_method_64_code 8 (some .int) 4 90 41 [(0, .ref b0), (1, .int b1), (2, .int b2), (3, .int b3), (4, .int b4), (5, .int b5)] [] h (some (.int r)) h') (b0 : Nat) (b1 : Int32) (b2 : Int32) (b3 : Int32) (b4 : Int32) (b5 : Int32) (h : mH) (r : Int32) (h' : mH) (hf : f_M_kill_128 rec41 b0 b1 b2 b3 b4 b5 h = some (r, h')) : G sc y_M_kill prog_10_method_64_code 8 (some .int) 4 90 128 [(0, .ref b0), (1, .int b1), (2, .int b2), (3, .int b3), (4, .int b4), (5, .int b5)] [] h (some (.int r)) h' := by
  unfold f_M_kill_128 at hf
  refine g_iconst (pc := 128) (0 : Int32) d_M_kill_128 (by decide) ?_
  refine g_lv [0, 1, 2, 3, 4, 5] rfl ?_
  exact t_M_kill_129 rec41 hrec41 _ _ _ _ _ _ _ _ _ _  hf
def f_M_kill_124 (rec41 : Nat → Int32 → Int32 → Int32 → Int32 → Int32 → mH → Option (Int32 × mH)) (b0 : Nat) (b1 : Int32) (b2 : Int32) (b3 : Int32) (b4 : Int32) (b5 : Int32) (h : mH) : Option (Int32 × mH) :=
  f_M_kill_129 rec41 b0 b1 b2 b3 b4 b5 (1 : Int32) h
set_option maxRecDepth 20000 in
theorem t_M_kill_124 {sc : Nat × (Nat → Int32)} (rec41 : Nat → Int32 → Int32 → Int32 → Int32 → Int32 → mH → Option (Int32 × mH)) (hrec41 : ∀ (b0 : Nat) (b1 : Int32) (b2 : Int32) (b3 : Int32) (b4 : Int32) (b5 : Int32) (h : mH) (r : Int32) (h' : mH), rec41 b0 b1 b2 b3 b4 b5 h = some (r, h') → G sc y_M_kill prog_10_method_64_code 8 (some .int) 4 90 41 [(0, .ref b0), (1, .int b1), (2, .int b2), (3, .int b3), (4, .int b4), (5, .int b5)] [] h (some (.int r)) h') (b0 : Nat) (b1 : Int32) (b2 : Int32) (b3 : Int32) (b4 : Int32) (b5 : Int32) (h : mH) (r : Int32) (h' : mH) (hf : f_M_kill_124 rec41 b0 b1 b2 b3 b4 b5 h = some (r, h')) : G sc y_M_kill prog_10_method_64_code 8 (some .int) 4 90 124 [(0, .ref b0), (1, .int b1), (2, .int b2), (3, .int b3), (4, .int b4), (5, .int b5)] [] h (some (.int r)) h' := by
  unfold f_M_kill_124 at hf
  refine g_iconst (pc := 124) (1 : Int32) d_M_kill_124 (by decide) ?_
  refine g_goto (pc := 125) 129 d_M_kill_125 (by decide) ?_
  refine g_lv [0, 1, 2, 3, 4, 5] rfl ?_
  exact t_M_kill_129 rec41 hrec41 _ _ _ _ _ _ _ _ _ _  hf
def f_M_kill_90 (rec41 : Nat → Int32 → Int32 → Int32 → Int32 → Int32 → mH → Option (Int32 × mH)) (rec58 : Nat → Int32 → Int32 → Int32 → Int32 → Int32 → Int32 → Int32 → mH → Option (Int32 × mH)) (b0 : Nat) (b1 : Int32) (b2 : Int32) (b3 : Int32) (b4 : Int32) (b5 : Int32) (b7 : Int32) (s0 : Int32) (s1 : Int32) (h : mH) : Option (Int32 × mH) :=
  rec58 b0 b1 b2 b3 b4 b5 (s0 + s1) (b7 + (1 : Int32)) h
set_option maxRecDepth 20000 in
theorem t_M_kill_90 {sc : Nat × (Nat → Int32)} (rec41 : Nat → Int32 → Int32 → Int32 → Int32 → Int32 → mH → Option (Int32 × mH)) (hrec41 : ∀ (b0 : Nat) (b1 : Int32) (b2 : Int32) (b3 : Int32) (b4 : Int32) (b5 : Int32) (h : mH) (r : Int32) (h' : mH), rec41 b0 b1 b2 b3 b4 b5 h = some (r, h') → G sc y_M_kill prog_10_method_64_code 8 (some .int) 4 90 41 [(0, .ref b0), (1, .int b1), (2, .int b2), (3, .int b3), (4, .int b4), (5, .int b5)] [] h (some (.int r)) h') (rec58 : Nat → Int32 → Int32 → Int32 → Int32 → Int32 → Int32 → Int32 → mH → Option (Int32 × mH)) (hrec58 : ∀ (b0 : Nat) (b1 : Int32) (b2 : Int32) (b3 : Int32) (b4 : Int32) (b5 : Int32) (b6 : Int32) (b7 : Int32) (h : mH) (r : Int32) (h' : mH), rec58 b0 b1 b2 b3 b4 b5 b6 b7 h = some (r, h') → G sc y_M_kill prog_10_method_64_code 8 (some .int) 4 90 58 [(0, .ref b0), (1, .int b1), (2, .int b2), (3, .int b3), (4, .int b4), (5, .int b5), (6, .int b6), (7, .int b7)] [] h (some (.int r)) h') (b0 : Nat) (b1 : Int32) (b2 : Int32) (b3 : Int32) (b4 : Int32) (b5 : Int32) (b7 : Int32) (s0 : Int32) (s1 : Int32) (h : mH) (r : Int32) (h' : mH) (hf : f_M_kill_90 rec41 rec58 b0 b1 b2 b3 b4 b5 b7 s0 s1 h = some (r, h')) : G sc y_M_kill prog_10_method_64_code 8 (some .int) 4 90 90 [(0, .ref b0), (1, .int b1), (2, .int b2), (3, .int b3), (4, .int b4), (5, .int b5), (7, .int b7)] [.int s1, .int s0] h (some (.int r)) h' := by
  unfold f_M_kill_90 at hf
  refine g_iadd (pc := 90) d_M_kill_90 ?_
  refine g_istore (pc := 91) [(6, .int (s0 + s1)), (0, .ref b0), (1, .int b1), (2, .int b2), (3, .int b3), (4, .int b4), (5, .int b5), (7, .int b7)] d_M_kill_91 (Nat.le_of_ble_eq_true rfl) rfl ?_
  refine g_iinc (pc := 93) 7 (b7 + (1 : Int32)) [(7, .int (b7 + (1 : Int32))), (6, .int (s0 + s1)), (0, .ref b0), (1, .int b1), (2, .int b2), (3, .int b3), (4, .int b4), (5, .int b5)] d_M_kill_93 rfl rfl (Nat.le_of_ble_eq_true rfl) rfl ?_
  refine g_goto (pc := 96) 58 d_M_kill_96 (by decide) ?_
  refine g_lv [2, 3, 4, 5, 6, 7, 1, 0] rfl ?_
  exact hrec58 _ _ _ _ _ _ _ _ _ _ _  hf
def f_M_kill_58b (rec41 : Nat → Int32 → Int32 → Int32 → Int32 → Int32 → mH → Option (Int32 × mH)) (rec58 : Nat → Int32 → Int32 → Int32 → Int32 → Int32 → Int32 → Int32 → mH → Option (Int32 × mH)) (b0 : Nat) (b1 : Int32) (b2 : Int32) (b3 : Int32) (b4 : Int32) (b5 : Int32) (b6 : Int32) (b7 : Int32) (h : mH) : Option (Int32 × mH) :=
  bd1 (gI h b0 8 3) fun x21 =>
  if x21 ≤ b7 then
    bd1 (kC h b0 8) fun _ =>
    bd2 (f_M_needOf b0 b1 h) fun x27 h25 =>
    if x27 ≤ b6 then
      f_M_kill_128 rec41 b0 b1 b2 b3 b4 b5 h25
    else
      if b3 = ((-4) : Int32) then
        f_M_kill_124 rec41 b0 b1 b2 b3 b4 b5 h25
      else
        bd2 (f_M_bitsOf b5 h25) fun x30 h28 =>
        if b3 ≤ x30 then
          f_M_kill_128 rec41 b0 b1 b2 b3 b4 b5 h28
        else
          f_M_kill_124 rec41 b0 b1 b2 b3 b4 b5 h28
  else
    if ((b5 >>> (b7 &&& 31)) &&& (1 : Int32)) = 0 then
      bd1 (kC h b0 8) fun _ =>
      bd2 (f_M_triesOf b0 b7 b1 h) fun x38 h36 =>
      f_M_kill_90 rec41 rec58 b0 b1 b2 b3 b4 b5 b7 b6 x38 h36
    else
      f_M_kill_90 rec41 rec58 b0 b1 b2 b3 b4 b5 b7 b6 (0 : Int32) h
set_option maxRecDepth 20000 in
theorem t_M_kill_58b {sc : Nat × (Nat → Int32)} (rec41 : Nat → Int32 → Int32 → Int32 → Int32 → Int32 → mH → Option (Int32 × mH)) (hrec41 : ∀ (b0 : Nat) (b1 : Int32) (b2 : Int32) (b3 : Int32) (b4 : Int32) (b5 : Int32) (h : mH) (r : Int32) (h' : mH), rec41 b0 b1 b2 b3 b4 b5 h = some (r, h') → G sc y_M_kill prog_10_method_64_code 8 (some .int) 4 90 41 [(0, .ref b0), (1, .int b1), (2, .int b2), (3, .int b3), (4, .int b4), (5, .int b5)] [] h (some (.int r)) h') (rec58 : Nat → Int32 → Int32 → Int32 → Int32 → Int32 → Int32 → Int32 → mH → Option (Int32 × mH)) (hrec58 : ∀ (b0 : Nat) (b1 : Int32) (b2 : Int32) (b3 : Int32) (b4 : Int32) (b5 : Int32) (b6 : Int32) (b7 : Int32) (h : mH) (r : Int32) (h' : mH), rec58 b0 b1 b2 b3 b4 b5 b6 b7 h = some (r, h') → G sc y_M_kill prog_10_method_64_code 8 (some .int) 4 90 58 [(0, .ref b0), (1, .int b1), (2, .int b2), (3, .int b3), (4, .int b4), (5, .int b5), (6, .int b6), (7, .int b7)] [] h (some (.int r)) h') (b0 : Nat) (b1 : Int32) (b2 : Int32) (b3 : Int32) (b4 : Int32) (b5 : Int32) (b6 : Int32) (b7 : Int32) (h : mH) (r : Int32) (h' : mH) (hf : f_M_kill_58b rec41 rec58 b0 b1 b2 b3 b4 b5 b6 b7 h = some (r, h')) : G sc y_M_kill prog_10_method_64_code 8 (some .int) 4 90 58 [(0, .ref b0), (1, .int b1), (2, .int b2), (3, .int b3), (4, .int b4), (5, .int b5), (6, .int b6), (7, .int b7)] [] h (some (.int r)) h' := by
  unfold f_M_kill_58b at hf
  refine g_iload (pc := 58) 7 d_M_kill_58 rfl ?_
  refine g_aload_n (pc := 60) 0 d_M_kill_60 rfl rfl ?_
  obtain ⟨x21, e22, hf⟩ := bd1_e hf
  refine g_get (pc := 61) (ci := 8) (kk := 3) d_M_kill_61 rfl in_M (by decide) wd_941 (gI_spec e22) ?_
  refine g_icmpge (pc := 64) 99 d_M_kill_64 (by decide) (fun c40 => ?_) (fun c40 => ?_)
  · replace hf := (if_pos c40).symm.trans hf
    refine g_iload (pc := 99) 6 d_M_kill_99 rfl ?_
    refine g_aload_n (pc := 101) 0 d_M_kill_101 rfl rfl ?_
    refine g_iload_n (pc := 102) 1 d_M_kill_102 rfl rfl ?_
    obtain ⟨u24, e23, hf⟩ := bd1_e hf
    obtain ⟨x27, h25, e26, hf⟩ := bd2_e hf
    refine g_callV (pc := 103) (ci := 8) [.int b1] (site_of si_M_needOf (by decide) (by decide)) wd_1140 wd_1142 wp_45 d_M_kill_103 rfl e23 (Nat.le_of_ble_eq_true rfl) (fun z => absurd z (by decide)) (fun z => absurd z (by decide)) (fun z => absurd z (by decide)) (c_M_needOf e26) rfl ?_
    refine g_st [.int x27, .int b6] rfl ?_
    refine g_icmpge (pc := 106) 128 d_M_kill_106 (by decide) (fun c33 => ?_) (fun c33 => ?_)
    · replace hf := (if_pos c33).symm.trans hf
      refine g_lv [0, 1, 2, 3, 4, 5] rfl ?_
      exact t_M_kill_128 rec41 hrec41 _ _ _ _ _ _ _ _ _  hf
    · replace hf := (if_neg c33).symm.trans hf
      refine g_iload_n (pc := 109) 3 d_M_kill_109 rfl rfl ?_
      refine g_bipush (pc := 110) ((-4) : Int32) d_M_kill_110 (by decide) ?_
      refine g_icmpeq (pc := 112) 124 d_M_kill_112 (by decide) (fun c32 => ?_) (fun c32 => ?_)
      · replace hf := (if_pos c32).symm.trans hf
        refine g_lv [0, 1, 2, 3, 4, 5] rfl ?_
        exact t_M_kill_124 rec41 hrec41 _ _ _ _ _ _ _ _ _  hf
      · replace hf := (if_neg c32).symm.trans hf
        refine g_iload (pc := 115) 5 d_M_kill_115 rfl ?_
        obtain ⟨x30, h28, e29, hf⟩ := bd2_e hf
        refine g_callS (pc := 117) [.int b5] (site_of si_M_bitsOf (by decide) (by decide)) wd_1230 wd_1231 d_M_kill_117 (Nat.le_of_ble_eq_true rfl) (fun z => absurd z (by decide)) (fun z => absurd z (by decide)) (fun z => absurd z (by decide)) (c_M_bitsOf e29) rfl ?_
        refine g_st [.int x30] rfl ?_
        refine g_iload_n (pc := 120) 3 d_M_kill_120 rfl rfl ?_
        refine g_icmpge (pc := 121) 128 d_M_kill_121 (by decide) (fun c31 => ?_) (fun c31 => ?_)
        · replace hf := (if_pos c31).symm.trans hf
          refine g_lv [0, 1, 2, 3, 4, 5] rfl ?_
          exact t_M_kill_128 rec41 hrec41 _ _ _ _ _ _ _ _ _  hf
        · replace hf := (if_neg c31).symm.trans hf
          refine g_lv [0, 1, 2, 3, 4, 5] rfl ?_
          exact t_M_kill_124 rec41 hrec41 _ _ _ _ _ _ _ _ _  hf
  · replace hf := (if_neg c40).symm.trans hf
    refine g_iload (pc := 67) 6 d_M_kill_67 rfl ?_
    refine g_iload (pc := 69) 5 d_M_kill_69 rfl ?_
    refine g_iload (pc := 71) 7 d_M_kill_71 rfl ?_
    refine g_ishr (pc := 73) d_M_kill_73 ?_
    refine g_iconst (pc := 74) (1 : Int32) d_M_kill_74 (by decide) ?_
    refine g_iand (pc := 75) d_M_kill_75 ?_
    refine g_ifne (pc := 76) 89 d_M_kill_76 (by decide) (fun c39 => ?_) (fun c39 => ?_)
    · replace hf := (if_neg c39).symm.trans hf
      refine g_iconst (pc := 89) (0 : Int32) d_M_kill_89 (by decide) ?_
      refine g_lv [0, 1, 2, 3, 4, 5, 7] rfl ?_
      exact t_M_kill_90 rec41 hrec41 rec58 hrec58 _ _ _ _ _ _ _ _ _ _ _ _  hf
    · replace hf := (if_pos c39).symm.trans hf
      refine g_aload_n (pc := 79) 0 d_M_kill_79 rfl rfl ?_
      refine g_iload (pc := 80) 7 d_M_kill_80 rfl ?_
      refine g_iload_n (pc := 82) 1 d_M_kill_82 rfl rfl ?_
      obtain ⟨u35, e34, hf⟩ := bd1_e hf
      obtain ⟨x38, h36, e37, hf⟩ := bd2_e hf
      refine g_callV (pc := 83) (ci := 8) [.int b7, .int b1] (site_of si_M_triesOf (by decide) (by decide)) wd_1298 wd_1300 wp_63 d_M_kill_83 rfl e34 (Nat.le_of_ble_eq_true rfl) (fun z => absurd z (by decide)) (fun z => absurd z (by decide)) (fun z => absurd z (by decide)) (c_M_triesOf e37) rfl ?_
      refine g_st [.int x38, .int b6] rfl ?_
      refine g_goto (pc := 86) 90 d_M_kill_86 (by decide) ?_
      refine g_lv [0, 1, 2, 3, 4, 5, 7] rfl ?_
      exact t_M_kill_90 rec41 hrec41 rec58 hrec58 _ _ _ _ _ _ _ _ _ _ _ _  hf
def f_M_kill_58 (rec41 : Nat → Int32 → Int32 → Int32 → Int32 → Int32 → mH → Option (Int32 × mH)) : Nat → Nat → Int32 → Int32 → Int32 → Int32 → Int32 → Int32 → Int32 → mH → Option (Int32 × mH)
  | 0 => fun _ _ _ _ _ _ _ _ _ => none
  | n + 1 => f_M_kill_58b rec41 (f_M_kill_58 rec41 n)
theorem t_M_kill_58 {sc : Nat × (Nat → Int32)} (rec41 : Nat → Int32 → Int32 → Int32 → Int32 → Int32 → mH → Option (Int32 × mH)) (hrec41 : ∀ (b0 : Nat) (b1 : Int32) (b2 : Int32) (b3 : Int32) (b4 : Int32) (b5 : Int32) (h : mH) (r : Int32) (h' : mH), rec41 b0 b1 b2 b3 b4 b5 h = some (r, h') → G sc y_M_kill prog_10_method_64_code 8 (some .int) 4 90 41 [(0, .ref b0), (1, .int b1), (2, .int b2), (3, .int b3), (4, .int b4), (5, .int b5)] [] h (some (.int r)) h') : ∀ (n : Nat) (b0 : Nat) (b1 : Int32) (b2 : Int32) (b3 : Int32) (b4 : Int32) (b5 : Int32) (b6 : Int32) (b7 : Int32) (h : mH) (r : Int32) (h' : mH) (hf : f_M_kill_58 rec41 n b0 b1 b2 b3 b4 b5 b6 b7 h = some (r, h')), G sc y_M_kill prog_10_method_64_code 8 (some .int) 4 90 58 [(0, .ref b0), (1, .int b1), (2, .int b2), (3, .int b3), (4, .int b4), (5, .int b5), (6, .int b6), (7, .int b7)] [] h (some (.int r)) h'
  | 0, _, _, _, _, _, _, _, _, _, _, _, hf => by cases hf
  | n + 1, _, _, _, _, _, _, _, _, _, _, _, hf => t_M_kill_58b rec41 hrec41 (f_M_kill_58 rec41 n) (t_M_kill_58 rec41 hrec41 n) _ _ _ _ _ _ _ _ _ _ _ hf
def f_M_kill_41b (rec41 : Nat → Int32 → Int32 → Int32 → Int32 → Int32 → mH → Option (Int32 × mH)) (b0 : Nat) (b1 : Int32) (b2 : Int32) (b3 : Int32) (b4 : Int32) (b5 : Int32) (h : mH) : Option (Int32 × mH) :=
  bd1 (gI h b0 8 3) fun x17 =>
  if ((1 : Int32) <<< (x17 &&& 31)) ≤ b5 then
    if b2 = 0 then
      some (b3, h)
    else
      some (b4, h)
  else
    f_M_kill_58 rec41 FU b0 b1 b2 b3 b4 b5 (0 : Int32) (0 : Int32) h
set_option maxRecDepth 20000 in
theorem t_M_kill_41b {sc : Nat × (Nat → Int32)} (rec41 : Nat → Int32 → Int32 → Int32 → Int32 → Int32 → mH → Option (Int32 × mH)) (hrec41 : ∀ (b0 : Nat) (b1 : Int32) (b2 : Int32) (b3 : Int32) (b4 : Int32) (b5 : Int32) (h : mH) (r : Int32) (h' : mH), rec41 b0 b1 b2 b3 b4 b5 h = some (r, h') → G sc y_M_kill prog_10_method_64_code 8 (some .int) 4 90 41 [(0, .ref b0), (1, .int b1), (2, .int b2), (3, .int b3), (4, .int b4), (5, .int b5)] [] h (some (.int r)) h') (b0 : Nat) (b1 : Int32) (b2 : Int32) (b3 : Int32) (b4 : Int32) (b5 : Int32) (h : mH) (r : Int32) (h' : mH) (hf : f_M_kill_41b rec41 b0 b1 b2 b3 b4 b5 h = some (r, h')) : G sc y_M_kill prog_10_method_64_code 8 (some .int) 4 90 41 [(0, .ref b0), (1, .int b1), (2, .int b2), (3, .int b3), (4, .int b4), (5, .int b5)] [] h (some (.int r)) h' := by
  unfold f_M_kill_41b at hf
  refine g_iload (pc := 41) 5 d_M_kill_41 rfl ?_
  refine g_iconst (pc := 43) (1 : Int32) d_M_kill_43 (by decide) ?_
  refine g_aload_n (pc := 44) 0 d_M_kill_44 rfl rfl ?_
  obtain ⟨x17, e18, hf⟩ := bd1_e hf
  refine g_get (pc := 45) (ci := 8) (kk := 3) d_M_kill_45 rfl in_M (by decide) wd_941 (gI_spec e18) ?_
  refine g_ishl (pc := 48) d_M_kill_48 ?_
  refine g_icmpge (pc := 49) 166 d_M_kill_49 (by decide) (fun c20 => ?_) (fun c20 => ?_)
  · replace hf := (if_pos c20).symm.trans hf
    refine g_iload_n (pc := 166) 2 d_M_kill_166 rfl rfl ?_
    refine g_ifne (pc := 167) 174 d_M_kill_167 (by decide) (fun c19 => ?_) (fun c19 => ?_)
    · replace hf := (if_neg c19).symm.trans hf
      refine g_iload (pc := 174) 4 d_M_kill_174 rfl ?_
      obtain ⟨rfl, rfl⟩ := ret2 hf
      exact g_iret (pc := 176) rfl d_M_kill_176
    · replace hf := (if_pos c19).symm.trans hf
      refine g_iload_n (pc := 170) 3 d_M_kill_170 rfl rfl ?_
      refine g_goto (pc := 171) 176 d_M_kill_171 (by decide) ?_
      obtain ⟨rfl, rfl⟩ := ret2 hf
      exact g_iret (pc := 176) rfl d_M_kill_176
  · replace hf := (if_neg c20).symm.trans hf
    refine g_iconst (pc := 52) (0 : Int32) d_M_kill_52 (by decide) ?_
    refine g_istore (pc := 53) [(6, .int (0 : Int32)), (0, .ref b0), (1, .int b1), (2, .int b2), (3, .int b3), (4, .int b4), (5, .int b5)] d_M_kill_53 (Nat.le_of_ble_eq_true rfl) rfl ?_
    refine g_iconst (pc := 55) (0 : Int32) d_M_kill_55 (by decide) ?_
    refine g_istore (pc := 56) [(7, .int (0 : Int32)), (6, .int (0 : Int32)), (0, .ref b0), (1, .int b1), (2, .int b2), (3, .int b3), (4, .int b4), (5, .int b5)] d_M_kill_56 (Nat.le_of_ble_eq_true rfl) rfl ?_
    refine g_lv [2, 3, 4, 5, 6, 7, 1, 0] rfl ?_
    exact t_M_kill_58 rec41 hrec41 FU _ _ _ _ _ _ _ _ _ _ _  hf
def f_M_kill_41  : Nat → Nat → Int32 → Int32 → Int32 → Int32 → Int32 → mH → Option (Int32 × mH)
  | 0 => fun _ _ _ _ _ _ _ => none
  | n + 1 => f_M_kill_41b  (f_M_kill_41  n)
theorem t_M_kill_41 {sc : Nat × (Nat → Int32)}  : ∀ (n : Nat) (b0 : Nat) (b1 : Int32) (b2 : Int32) (b3 : Int32) (b4 : Int32) (b5 : Int32) (h : mH) (r : Int32) (h' : mH) (hf : f_M_kill_41  n b0 b1 b2 b3 b4 b5 h = some (r, h')), G sc y_M_kill prog_10_method_64_code 8 (some .int) 4 90 41 [(0, .ref b0), (1, .int b1), (2, .int b2), (3, .int b3), (4, .int b4), (5, .int b5)] [] h (some (.int r)) h'
  | 0, _, _, _, _, _, _, _, _, _, hf => by cases hf
  | n + 1, _, _, _, _, _, _, _, _, _, hf => t_M_kill_41b  (f_M_kill_41  n) (t_M_kill_41  n) _ _ _ _ _ _ _ _ _ hf
def f_M_kill_18   (h : mH) : Option (Int32 × mH) :=
  some (((-1) : Int32), h)
set_option maxRecDepth 20000 in
theorem t_M_kill_18 {sc : Nat × (Nat → Int32)}   (h : mH) (r : Int32) (h' : mH) (hf : f_M_kill_18   h = some (r, h')) : G sc y_M_kill prog_10_method_64_code 8 (some .int) 4 90 18 [] [] h (some (.int r)) h' := by
  unfold f_M_kill_18 at hf
  refine g_iconst (pc := 18) ((-1) : Int32) d_M_kill_18 (by decide) ?_
  obtain ⟨rfl, rfl⟩ := ret2 hf
  exact g_iret (pc := 19) rfl d_M_kill_19
def f_M_kill_0  (a0 : Nat) (a1 : Int32) (a2 : Int32) (h : mH) : Option (Int32 × mH) :=
  bd1 (kC h a0 8) fun _ =>
  bd2 (f_M_isLaw a0 a1 h) fun x5 h3 =>
  if x5 = 0 then
    f_M_kill_18  h3
  else
    bd2 (f_M_in a2.toInt64 (0 : Int64) (1 : Int64) h3) fun x8 h6 =>
    if x8 = 0 then
      f_M_kill_18  h6
    else
      bd1 (kC h6 a0 8) fun _ =>
      bd2 (f_M_doesStand a0 a1 h6) fun x13 h11 =>
      if x13 = 0 then
        some (((-2) : Int32), h11)
      else
        f_M_kill_41  FU a0 a1 a2 ((-4) : Int32) ((-4) : Int32) (0 : Int32) h11
set_option maxRecDepth 20000 in
theorem t_M_kill_0 {sc : Nat × (Nat → Int32)}  (a0 : Nat) (a1 : Int32) (a2 : Int32) (h : mH) (r : Int32) (h' : mH) (hf : f_M_kill_0  a0 a1 a2 h = some (r, h')) : G sc y_M_kill prog_10_method_64_code 8 (some .int) 4 90 0 [(0, .ref a0), (1, .int a1), (2, .int a2)] [] h (some (.int r)) h' := by
  unfold f_M_kill_0 at hf
  refine g_aload_n (pc := 0) 0 d_M_kill_0 rfl rfl ?_
  refine g_iload_n (pc := 1) 1 d_M_kill_1 rfl rfl ?_
  obtain ⟨u2, e1, hf⟩ := bd1_e hf
  obtain ⟨x5, h3, e4, hf⟩ := bd2_e hf
  refine g_callV (pc := 2) (ci := 8) [.int a1] (site_of si_M_isLaw (by decide) (by decide)) wd_1136 wd_1138 wp_44 d_M_kill_2 rfl e1 (Nat.le_of_ble_eq_true rfl) (fun z => absurd z (by decide)) (fun z => absurd z (by decide)) (fun z => absurd z (by decide)) (c_M_isLaw e4) rfl ?_
  refine g_st [.int x5] rfl ?_
  refine g_ifeq (pc := 5) 18 d_M_kill_5 (by decide) (fun c16 => ?_) (fun c16 => ?_)
  · replace hf := (if_pos c16).symm.trans hf
    refine g_lv [] rfl ?_
    exact t_M_kill_18  _ _ _  hf
  · replace hf := (if_neg c16).symm.trans hf
    refine g_iload_n (pc := 8) 2 d_M_kill_8 rfl rfl ?_
    refine g_i2l (pc := 9) d_M_kill_9 ?_
    refine g_lconst (pc := 10) (0 : Int64) d_M_kill_10 (by decide) ?_
    refine g_lconst (pc := 11) (1 : Int64) d_M_kill_11 (by decide) ?_
    obtain ⟨x8, h6, e7, hf⟩ := bd2_e hf
    refine g_callS (pc := 12) [.long a2.toInt64, .long (0 : Int64), .long (1 : Int64)] (site_of si_M_in (by decide) (by decide)) wd_1061 wd_1062 d_M_kill_12 (Nat.le_of_ble_eq_true rfl) (fun z => absurd z (by decide)) (fun z => absurd z (by decide)) (fun z => absurd z (by decide)) (c_M_in e7) rfl ?_
    refine g_st [.int x8] rfl ?_
    refine g_ifne (pc := 15) 20 d_M_kill_15 (by decide) (fun c15 => ?_) (fun c15 => ?_)
    · replace hf := (if_neg c15).symm.trans hf
      refine g_aload_n (pc := 20) 0 d_M_kill_20 rfl rfl ?_
      refine g_iload_n (pc := 21) 1 d_M_kill_21 rfl rfl ?_
      obtain ⟨u10, e9, hf⟩ := bd1_e hf
      obtain ⟨x13, h11, e12, hf⟩ := bd2_e hf
      refine g_callV (pc := 22) (ci := 8) [.int a1] (site_of si_M_doesStand (by decide) (by decide)) wd_1144 wd_1146 wp_46 d_M_kill_22 rfl e9 (Nat.le_of_ble_eq_true rfl) (fun z => absurd z (by decide)) (fun z => absurd z (by decide)) (fun z => absurd z (by decide)) (c_M_doesStand e12) rfl ?_
      refine g_st [.int x13] rfl ?_
      refine g_ifne (pc := 25) 31 d_M_kill_25 (by decide) (fun c14 => ?_) (fun c14 => ?_)
      · replace hf := (if_neg c14).symm.trans hf
        refine g_bipush (pc := 31) ((-4) : Int32) d_M_kill_31 (by decide) ?_
        refine g_istore_n (pc := 33) [(3, .int ((-4) : Int32)), (0, .ref a0), (1, .int a1), (2, .int a2)] d_M_kill_33 rfl (Nat.le_of_ble_eq_true rfl) rfl ?_
        refine g_bipush (pc := 34) ((-4) : Int32) d_M_kill_34 (by decide) ?_
        refine g_istore (pc := 36) [(4, .int ((-4) : Int32)), (3, .int ((-4) : Int32)), (0, .ref a0), (1, .int a1), (2, .int a2)] d_M_kill_36 (Nat.le_of_ble_eq_true rfl) rfl ?_
        refine g_iconst (pc := 38) (0 : Int32) d_M_kill_38 (by decide) ?_
        refine g_istore (pc := 39) [(5, .int (0 : Int32)), (4, .int ((-4) : Int32)), (3, .int ((-4) : Int32)), (0, .ref a0), (1, .int a1), (2, .int a2)] d_M_kill_39 (Nat.le_of_ble_eq_true rfl) rfl ?_
        refine g_lv [3, 4, 5, 2, 1, 0] rfl ?_
        exact t_M_kill_41  FU _ _ _ _ _ _ _ _ _  hf
      · replace hf := (if_pos c14).symm.trans hf
        refine g_bipush (pc := 28) ((-2) : Int32) d_M_kill_28 (by decide) ?_
        obtain ⟨rfl, rfl⟩ := ret2 hf
        exact g_iret (pc := 30) rfl d_M_kill_30
    · replace hf := (if_pos c15).symm.trans hf
      refine g_lv [] rfl ?_
      exact t_M_kill_18  _ _ _  hf
def f_M_kill (a0 : Nat) (a1 : Int32) (a2 : Int32) (h : mH) : Option (Int32 × mH) := f_M_kill_0 a0 a1 a2 h
theorem c_M_kill {sc : Nat × (Nat → Int32)} {a0 : Nat} {a1 : Int32} {a2 : Int32} {h : mH} {r : Int32} {h' : mH} (hf : f_M_kill a0 a1 a2 h = some (r, h')) : MM sc y_M_kill prog_10_method_64_code 8 (some .int) 4 90 [.ref a0, .int a1, .int a2] h (some (.int r)) h' :=
  mm_of_G (by decide) (Nat.le_of_ble_eq_true rfl) (t_M_kill_0 _ _ _ _ _ _ hf)
/-! M saves ()V -/
set_option maxRecDepth 100000 in
theorem dd_M_saves_0 : (decode prog_10_method_65_code 0 = .ok (.iconst 0, 1)) ∧ (decode prog_10_method_65_code 1 = .ok (.istore_n 1, 1)) ∧ (decode prog_10_method_65_code 2 = .ok (.iload_n 1, 1)) ∧ (decode prog_10_method_65_code 3 = .ok (.bipush 66, 2)) ∧ (decode prog_10_method_65_code 5 = .ok (.if_icmp .ge 21, 3)) ∧ (decode prog_10_method_65_code 8 = .ok (.aload_n 0, 1)) ∧ (decode prog_10_method_65_code 9 = .ok (.getfield 65, 3)) ∧ (decode prog_10_method_65_code 12 = .ok (.iload_n 1, 1)) ∧ (decode prog_10_method_65_code 13 = .ok (.aload_n 0, 1)) ∧ (decode prog_10_method_65_code 14 = .ok (.getfield 7, 3)) ∧ (decode prog_10_method_65_code 17 = .ok (.iload_n 1, 1)) ∧ (decode prog_10_method_65_code 18 = .ok (.iaload, 1)) ∧ (decode prog_10_method_65_code 19 = .ok (.iastore, 1)) ∧ (decode prog_10_method_65_code 20 = .ok (.iinc 1 1, 3)) ∧ (decode prog_10_method_65_code 23 = .ok (.goto (-21), 3)) ∧ (decode prog_10_method_65_code 26 = .ok (.return_, 1)) := by
  have h : List.drop 0 prog_10_method_65_code.data.toList = 0x03 :: _ := rfl
  refine ⟨zq_k_n 3 h rfl (zq_o_3 _), ?_⟩
  replace h := zq_nx1 (q := 1) h rfl
  refine ⟨zq_k_n 60 h rfl (zq_o_60 _), ?_⟩
  replace h := zq_nx1 (q := 2) h rfl
  refine ⟨zq_k_n 27 h rfl (zq_o_27 _), ?_⟩
  replace h := zq_nx1 (q := 3) h rfl
  refine ⟨zq_k_s1 16 (fun z => .bipush z) 66 h rfl (zq_o_16 _) (by decide +kernel), ?_⟩
  replace h := zq_nx2 (q := 5) h rfl
  refine ⟨zq_k_s2 162 (fun z => .if_icmp .ge z) 21 h rfl (zq_o_162 _) (by decide +kernel), ?_⟩
  replace h := zq_nx3 (q := 8) h rfl
  refine ⟨zq_k_n 42 h rfl (zq_o_42 _), ?_⟩
  replace h := zq_nx1 (q := 9) h rfl
  refine ⟨zq_k_u2 180 (fun z => .getfield z) 65 h rfl (zq_o_180 _) (by decide +kernel), ?_⟩
  replace h := zq_nx3 (q := 12) h rfl
  refine ⟨zq_k_n 27 h rfl (zq_o_27 _), ?_⟩
  replace h := zq_nx1 (q := 13) h rfl
  refine ⟨zq_k_n 42 h rfl (zq_o_42 _), ?_⟩
  replace h := zq_nx1 (q := 14) h rfl
  refine ⟨zq_k_u2 180 (fun z => .getfield z) 7 h rfl (zq_o_180 _) (by decide +kernel), ?_⟩
  replace h := zq_nx3 (q := 17) h rfl
  refine ⟨zq_k_n 27 h rfl (zq_o_27 _), ?_⟩
  replace h := zq_nx1 (q := 18) h rfl
  refine ⟨zq_k_n 46 h rfl (zq_o_46 _), ?_⟩
  replace h := zq_nx1 (q := 19) h rfl
  refine ⟨zq_k_n 79 h rfl (zq_o_79 _), ?_⟩
  replace h := zq_nx1 (q := 20) h rfl
  refine ⟨zq_k_iinc 1 1 h rfl (zq_o_132 _) (by decide +kernel) (by decide +kernel), ?_⟩
  replace h := zq_nx3 (q := 23) h rfl
  refine ⟨zq_k_s2 167 (fun z => .goto z) (-21) h rfl (zq_o_167 _) (by decide +kernel), ?_⟩
  replace h := zq_nx3 (q := 26) h rfl
  exact zq_k_n 177 h rfl (zq_o_177 _)
theorem d_M_saves_0 : decode prog_10_method_65_code 0 = .ok (.iconst 0, 1) := dd_M_saves_0.1
theorem d_M_saves_1 : decode prog_10_method_65_code 1 = .ok (.istore_n 1, 1) := dd_M_saves_0.2.1
theorem d_M_saves_2 : decode prog_10_method_65_code 2 = .ok (.iload_n 1, 1) := dd_M_saves_0.2.2.1
theorem d_M_saves_3 : decode prog_10_method_65_code 3 = .ok (.bipush 66, 2) := dd_M_saves_0.2.2.2.1
theorem d_M_saves_5 : decode prog_10_method_65_code 5 = .ok (.if_icmp .ge 21, 3) := dd_M_saves_0.2.2.2.2.1
theorem d_M_saves_8 : decode prog_10_method_65_code 8 = .ok (.aload_n 0, 1) := dd_M_saves_0.2.2.2.2.2.1
theorem d_M_saves_9 : decode prog_10_method_65_code 9 = .ok (.getfield 65, 3) := dd_M_saves_0.2.2.2.2.2.2.1
theorem d_M_saves_12 : decode prog_10_method_65_code 12 = .ok (.iload_n 1, 1) := dd_M_saves_0.2.2.2.2.2.2.2.1
theorem d_M_saves_13 : decode prog_10_method_65_code 13 = .ok (.aload_n 0, 1) := dd_M_saves_0.2.2.2.2.2.2.2.2.1
theorem d_M_saves_14 : decode prog_10_method_65_code 14 = .ok (.getfield 7, 3) := dd_M_saves_0.2.2.2.2.2.2.2.2.2.1
theorem d_M_saves_17 : decode prog_10_method_65_code 17 = .ok (.iload_n 1, 1) := dd_M_saves_0.2.2.2.2.2.2.2.2.2.2.1
theorem d_M_saves_18 : decode prog_10_method_65_code 18 = .ok (.iaload, 1) := dd_M_saves_0.2.2.2.2.2.2.2.2.2.2.2.1
theorem d_M_saves_19 : decode prog_10_method_65_code 19 = .ok (.iastore, 1) := dd_M_saves_0.2.2.2.2.2.2.2.2.2.2.2.2.1
theorem d_M_saves_20 : decode prog_10_method_65_code 20 = .ok (.iinc 1 1, 3) := dd_M_saves_0.2.2.2.2.2.2.2.2.2.2.2.2.2.1
theorem d_M_saves_23 : decode prog_10_method_65_code 23 = .ok (.goto (-21), 3) := dd_M_saves_0.2.2.2.2.2.2.2.2.2.2.2.2.2.2.1
theorem d_M_saves_26 : decode prog_10_method_65_code 26 = .ok (.return_, 1) := dd_M_saves_0.2.2.2.2.2.2.2.2.2.2.2.2.2.2.2
def f_M_saves_2b (rec2 : Nat → Int32 → mH → Option mH) (b0 : Nat) (b1 : Int32) (h : mH) : Option mH :=
  if (66 : Int32) ≤ b1 then
    some h
  else
    bd1 (gR h b0 8 31) fun x1 =>
    bd1 (gR h b0 8 0) fun x3 =>
    bd1 (aI h 0 x3 b1) fun x5 =>
    bd1 (sI h 0 x1 b1 x5) fun h7 =>
    rec2 b0 (b1 + (1 : Int32)) h7
set_option maxRecDepth 20000 in
theorem t_M_saves_2b {sc : Nat × (Nat → Int32)} (rec2 : Nat → Int32 → mH → Option mH) (hrec2 : ∀ (b0 : Nat) (b1 : Int32) (h : mH) (h' : mH), rec2 b0 b1 h = some h' → G sc y_M_saves prog_10_method_65_code 2 none 0 0 2 [(0, .ref b0), (1, .int b1)] [] h none h') (b0 : Nat) (b1 : Int32) (h : mH) (h' : mH) (hf : f_M_saves_2b rec2 b0 b1 h = some h') : G sc y_M_saves prog_10_method_65_code 2 none 0 0 2 [(0, .ref b0), (1, .int b1)] [] h none h' := by
  unfold f_M_saves_2b at hf
  refine g_iload_n (pc := 2) 1 d_M_saves_2 rfl rfl ?_
  refine g_bipush (pc := 3) (66 : Int32) d_M_saves_3 (by decide) ?_
  refine g_icmpge (pc := 5) 26 d_M_saves_5 (by decide) (fun c9 => ?_) (fun c9 => ?_)
  · replace hf := (if_pos c9).symm.trans hf
    obtain rfl := ret1 hf
    exact g_vret (pc := 26) rfl d_M_saves_26
  · replace hf := (if_neg c9).symm.trans hf
    refine g_aload_n (pc := 8) 0 d_M_saves_8 rfl rfl ?_
    obtain ⟨x1, e2, hf⟩ := bd1_e hf
    refine g_get (pc := 9) (ci := 8) (kk := 31) d_M_saves_9 rfl in_M (by decide) wd_969 (gR_spec e2) ?_
    refine g_iload_n (pc := 12) 1 d_M_saves_12 rfl rfl ?_
    refine g_aload_n (pc := 13) 0 d_M_saves_13 rfl rfl ?_
    obtain ⟨x3, e4, hf⟩ := bd1_e hf
    refine g_get (pc := 14) (ci := 8) (kk := 0) d_M_saves_14 rfl in_M (by decide) wd_938 (gR_spec e4) ?_
    refine g_iload_n (pc := 17) 1 d_M_saves_17 rfl rfl ?_
    obtain ⟨x5, e6, hf⟩ := bd1_e hf
    refine g_iald (pc := 18) d_M_saves_18 e6 ?_
    obtain ⟨h7, e8, hf⟩ := bd1_e hf
    refine g_iast (pc := 19) d_M_saves_19 e8 ?_
    refine g_iinc (pc := 20) 1 (b1 + (1 : Int32)) [(1, .int (b1 + (1 : Int32))), (0, .ref b0)] d_M_saves_20 rfl rfl (Nat.le_of_ble_eq_true rfl) rfl ?_
    refine g_goto (pc := 23) 2 d_M_saves_23 (by decide) ?_
    refine g_lv [1, 0] rfl ?_
    exact hrec2 _ _ _ _  hf
def f_M_saves_2  : Nat → Nat → Int32 → mH → Option mH
  | 0 => fun _ _ _ => none
  | n + 1 => f_M_saves_2b  (f_M_saves_2  n)
theorem t_M_saves_2 {sc : Nat × (Nat → Int32)}  : ∀ (n : Nat) (b0 : Nat) (b1 : Int32) (h : mH) (h' : mH) (hf : f_M_saves_2  n b0 b1 h = some h'), G sc y_M_saves prog_10_method_65_code 2 none 0 0 2 [(0, .ref b0), (1, .int b1)] [] h none h'
  | 0, _, _, _, _, hf => by cases hf
  | n + 1, _, _, _, _, hf => t_M_saves_2b  (f_M_saves_2  n) (t_M_saves_2  n) _ _ _ _ hf
def f_M_saves_0  (a0 : Nat) (h : mH) : Option mH :=
  f_M_saves_2  FU a0 (0 : Int32) h
set_option maxRecDepth 20000 in
theorem t_M_saves_0 {sc : Nat × (Nat → Int32)}  (a0 : Nat) (h : mH) (h' : mH) (hf : f_M_saves_0  a0 h = some h') : G sc y_M_saves prog_10_method_65_code 2 none 0 0 0 [(0, .ref a0)] [] h none h' := by
  unfold f_M_saves_0 at hf
  refine g_iconst (pc := 0) (0 : Int32) d_M_saves_0 (by decide) ?_
  refine g_istore_n (pc := 1) [(1, .int (0 : Int32)), (0, .ref a0)] d_M_saves_1 rfl (Nat.le_of_ble_eq_true rfl) rfl ?_
  refine g_lv [1, 0] rfl ?_
  exact t_M_saves_2  FU _ _ _ _  hf
def f_M_saves (a0 : Nat) (h : mH) : Option mH := f_M_saves_0 a0 h
theorem c_M_saves {sc : Nat × (Nat → Int32)} {a0 : Nat} {h : mH} {h' : mH} (hf : f_M_saves a0 h = some h') : MM sc y_M_saves prog_10_method_65_code 2 none 0 0 [.ref a0] h none h' :=
  mm_of_G (by decide) (Nat.le_of_ble_eq_true rfl) (t_M_saves_0 _ _ _ hf)
/-! M wantedBy (I)I -/
set_option maxRecDepth 100000 in
theorem dd_M_wantedBy_0 : (decode prog_10_method_67_code 0 = .ok (.bipush (-4), 2)) ∧ (decode prog_10_method_67_code 2 = .ok (.istore_n 2, 1)) ∧ (decode prog_10_method_67_code 3 = .ok (.iconst 0, 1)) ∧ (decode prog_10_method_67_code 4 = .ok (.istore_n 3, 1)) ∧ (decode prog_10_method_67_code 5 = .ok (.iload_n 3, 1)) ∧ (decode prog_10_method_67_code 6 = .ok (.aload_n 0, 1)) ∧ (decode prog_10_method_67_code 7 = .ok (.getfield 106, 3)) ∧ (decode prog_10_method_67_code 10 = .ok (.if_icmp .ge 80, 3)) ∧ (decode prog_10_method_67_code 13 = .ok (.aload_n 0, 1)) ∧ (decode prog_10_method_67_code 14 = .ok (.getfield 7, 3)) ∧ (decode prog_10_method_67_code 17 = .ok (.bipush 21, 2)) ∧ (decode prog_10_method_67_code 19 = .ok (.iload_n 1, 1)) ∧ (decode prog_10_method_67_code 20 = .ok (.iadd, 1)) ∧ (decode prog_10_method_67_code 21 = .ok (.iaload, 1)) ∧ (decode prog_10_method_67_code 22 = .ok (.iload_n 3, 1)) ∧ (decode prog_10_method_67_code 23 = .ok (.ishr, 1)) ∧ (decode prog_10_method_67_code 24 = .ok (.iconst 1, 1)) ∧ (decode prog_10_method_67_code 25 = .ok (.iand, 1)) ∧ (decode prog_10_method_67_code 26 = .ok (.iconst 1, 1)) ∧ (decode prog_10_method_67_code 27 = .ok (.if_icmp .ne 24, 3)) ∧ (decode prog_10_method_67_code 30 = .ok (.aload_n 0, 1)) ∧ (decode prog_10_method_67_code 31 = .ok (.iload_n 1, 1)) ∧ (decode prog_10_method_67_code 32 = .ok (.iload_n 3, 1)) ∧ (decode prog_10_method_67_code 33 = .ok (.invokevirtual 216, 3)) := by
  have h : List.drop 0 prog_10_method_67_code.data.toList = 0x10 :: _ := rfl
  refine ⟨zq_k_s1 16 (fun z => .bipush z) (-4) h rfl (zq_o_16 _) (by decide +kernel), ?_⟩
  replace h := zq_nx2 (q := 2) h rfl
  refine ⟨zq_k_n 61 h rfl (zq_o_61 _), ?_⟩
  replace h := zq_nx1 (q := 3) h rfl
  refine ⟨zq_k_n 3 h rfl (zq_o_3 _), ?_⟩
  replace h := zq_nx1 (q := 4) h rfl
  refine ⟨zq_k_n 62 h rfl (zq_o_62 _), ?_⟩
  replace h := zq_nx1 (q := 5) h rfl
  refine ⟨zq_k_n 29 h rfl (zq_o_29 _), ?_⟩
  replace h := zq_nx1 (q := 6) h rfl
  refine ⟨zq_k_n 42 h rfl (zq_o_42 _), ?_⟩
  replace h := zq_nx1 (q := 7) h rfl
  refine ⟨zq_k_u2 180 (fun z => .getfield z) 106 h rfl (zq_o_180 _) (by decide +kernel), ?_⟩
  replace h := zq_nx3 (q := 10) h rfl
  refine ⟨zq_k_s2 162 (fun z => .if_icmp .ge z) 80 h rfl (zq_o_162 _) (by decide +kernel), ?_⟩
  replace h := zq_nx3 (q := 13) h rfl
  refine ⟨zq_k_n 42 h rfl (zq_o_42 _), ?_⟩
  replace h := zq_nx1 (q := 14) h rfl
  refine ⟨zq_k_u2 180 (fun z => .getfield z) 7 h rfl (zq_o_180 _) (by decide +kernel), ?_⟩
  replace h := zq_nx3 (q := 17) h rfl
  refine ⟨zq_k_s1 16 (fun z => .bipush z) 21 h rfl (zq_o_16 _) (by decide +kernel), ?_⟩
  replace h := zq_nx2 (q := 19) h rfl
  refine ⟨zq_k_n 27 h rfl (zq_o_27 _), ?_⟩
  replace h := zq_nx1 (q := 20) h rfl
  refine ⟨zq_k_n 96 h rfl (zq_o_96 _), ?_⟩
  replace h := zq_nx1 (q := 21) h rfl
  refine ⟨zq_k_n 46 h rfl (zq_o_46 _), ?_⟩
  replace h := zq_nx1 (q := 22) h rfl
  refine ⟨zq_k_n 29 h rfl (zq_o_29 _), ?_⟩
  replace h := zq_nx1 (q := 23) h rfl
  refine ⟨zq_k_n 122 h rfl (zq_o_122 _), ?_⟩
  replace h := zq_nx1 (q := 24) h rfl
  refine ⟨zq_k_n 4 h rfl (zq_o_4 _), ?_⟩
  replace h := zq_nx1 (q := 25) h rfl
  refine ⟨zq_k_n 126 h rfl (zq_o_126 _), ?_⟩
  replace h := zq_nx1 (q := 26) h rfl
  refine ⟨zq_k_n 4 h rfl (zq_o_4 _), ?_⟩
  replace h := zq_nx1 (q := 27) h rfl
  refine ⟨zq_k_s2 160 (fun z => .if_icmp .ne z) 24 h rfl (zq_o_160 _) (by decide +kernel), ?_⟩
  replace h := zq_nx3 (q := 30) h rfl
  refine ⟨zq_k_n 42 h rfl (zq_o_42 _), ?_⟩
  replace h := zq_nx1 (q := 31) h rfl
  refine ⟨zq_k_n 27 h rfl (zq_o_27 _), ?_⟩
  replace h := zq_nx1 (q := 32) h rfl
  refine ⟨zq_k_n 29 h rfl (zq_o_29 _), ?_⟩
  replace h := zq_nx1 (q := 33) h rfl
  exact zq_k_u2 182 (fun z => .invokevirtual z) 216 h rfl (zq_o_182 _) (by decide +kernel)
theorem d_M_wantedBy_0 : decode prog_10_method_67_code 0 = .ok (.bipush (-4), 2) := dd_M_wantedBy_0.1
theorem d_M_wantedBy_2 : decode prog_10_method_67_code 2 = .ok (.istore_n 2, 1) := dd_M_wantedBy_0.2.1
theorem d_M_wantedBy_3 : decode prog_10_method_67_code 3 = .ok (.iconst 0, 1) := dd_M_wantedBy_0.2.2.1
theorem d_M_wantedBy_4 : decode prog_10_method_67_code 4 = .ok (.istore_n 3, 1) := dd_M_wantedBy_0.2.2.2.1
theorem d_M_wantedBy_5 : decode prog_10_method_67_code 5 = .ok (.iload_n 3, 1) := dd_M_wantedBy_0.2.2.2.2.1
theorem d_M_wantedBy_6 : decode prog_10_method_67_code 6 = .ok (.aload_n 0, 1) := dd_M_wantedBy_0.2.2.2.2.2.1
theorem d_M_wantedBy_7 : decode prog_10_method_67_code 7 = .ok (.getfield 106, 3) := dd_M_wantedBy_0.2.2.2.2.2.2.1
theorem d_M_wantedBy_10 : decode prog_10_method_67_code 10 = .ok (.if_icmp .ge 80, 3) := dd_M_wantedBy_0.2.2.2.2.2.2.2.1
theorem d_M_wantedBy_13 : decode prog_10_method_67_code 13 = .ok (.aload_n 0, 1) := dd_M_wantedBy_0.2.2.2.2.2.2.2.2.1
theorem d_M_wantedBy_14 : decode prog_10_method_67_code 14 = .ok (.getfield 7, 3) := dd_M_wantedBy_0.2.2.2.2.2.2.2.2.2.1
theorem d_M_wantedBy_17 : decode prog_10_method_67_code 17 = .ok (.bipush 21, 2) := dd_M_wantedBy_0.2.2.2.2.2.2.2.2.2.2.1
theorem d_M_wantedBy_19 : decode prog_10_method_67_code 19 = .ok (.iload_n 1, 1) := dd_M_wantedBy_0.2.2.2.2.2.2.2.2.2.2.2.1
theorem d_M_wantedBy_20 : decode prog_10_method_67_code 20 = .ok (.iadd, 1) := dd_M_wantedBy_0.2.2.2.2.2.2.2.2.2.2.2.2.1
theorem d_M_wantedBy_21 : decode prog_10_method_67_code 21 = .ok (.iaload, 1) := dd_M_wantedBy_0.2.2.2.2.2.2.2.2.2.2.2.2.2.1
theorem d_M_wantedBy_22 : decode prog_10_method_67_code 22 = .ok (.iload_n 3, 1) := dd_M_wantedBy_0.2.2.2.2.2.2.2.2.2.2.2.2.2.2.1
theorem d_M_wantedBy_23 : decode prog_10_method_67_code 23 = .ok (.ishr, 1) := dd_M_wantedBy_0.2.2.2.2.2.2.2.2.2.2.2.2.2.2.2.1
theorem d_M_wantedBy_24 : decode prog_10_method_67_code 24 = .ok (.iconst 1, 1) := dd_M_wantedBy_0.2.2.2.2.2.2.2.2.2.2.2.2.2.2.2.2.1
theorem d_M_wantedBy_25 : decode prog_10_method_67_code 25 = .ok (.iand, 1) := dd_M_wantedBy_0.2.2.2.2.2.2.2.2.2.2.2.2.2.2.2.2.2.1
theorem d_M_wantedBy_26 : decode prog_10_method_67_code 26 = .ok (.iconst 1, 1) := dd_M_wantedBy_0.2.2.2.2.2.2.2.2.2.2.2.2.2.2.2.2.2.2.1
theorem d_M_wantedBy_27 : decode prog_10_method_67_code 27 = .ok (.if_icmp .ne 24, 3) := dd_M_wantedBy_0.2.2.2.2.2.2.2.2.2.2.2.2.2.2.2.2.2.2.2.1
theorem d_M_wantedBy_30 : decode prog_10_method_67_code 30 = .ok (.aload_n 0, 1) := dd_M_wantedBy_0.2.2.2.2.2.2.2.2.2.2.2.2.2.2.2.2.2.2.2.2.1
theorem d_M_wantedBy_31 : decode prog_10_method_67_code 31 = .ok (.iload_n 1, 1) := dd_M_wantedBy_0.2.2.2.2.2.2.2.2.2.2.2.2.2.2.2.2.2.2.2.2.2.1
theorem d_M_wantedBy_32 : decode prog_10_method_67_code 32 = .ok (.iload_n 3, 1) := dd_M_wantedBy_0.2.2.2.2.2.2.2.2.2.2.2.2.2.2.2.2.2.2.2.2.2.2.1
theorem d_M_wantedBy_33 : decode prog_10_method_67_code 33 = .ok (.invokevirtual 216, 3) := dd_M_wantedBy_0.2.2.2.2.2.2.2.2.2.2.2.2.2.2.2.2.2.2.2.2.2.2.2
set_option maxRecDepth 100000 in
theorem dd_M_wantedBy_36 : (decode prog_10_method_67_code 36 = .ok (.ifCond .eq 15, 3)) ∧ (decode prog_10_method_67_code 39 = .ok (.aload_n 0, 1)) ∧ (decode prog_10_method_67_code 40 = .ok (.iload_n 3, 1)) ∧ (decode prog_10_method_67_code 41 = .ok (.invokevirtual 204, 3)) ∧ (decode prog_10_method_67_code 44 = .ok (.ifCond .le 7, 3)) ∧ (decode prog_10_method_67_code 47 = .ok (.iconst 1, 1)) ∧ (decode prog_10_method_67_code 48 = .ok (.goto 4, 3)) ∧ (decode prog_10_method_67_code 51 = .ok (.iconst 0, 1)) ∧ (decode prog_10_method_67_code 52 = .ok (.istore 4, 2)) ∧ (decode prog_10_method_67_code 54 = .ok (.iload 4, 2)) ∧ (decode prog_10_method_67_code 56 = .ok (.ifCond .eq 26, 3)) ∧ (decode prog_10_method_67_code 59 = .ok (.iload_n 2, 1)) ∧ (decode prog_10_method_67_code 60 = .ok (.bipush (-4), 2)) ∧ (decode prog_10_method_67_code 62 = .ok (.if_icmp .eq 16, 3)) ∧ (decode prog_10_method_67_code 65 = .ok (.aload_n 0, 1)) ∧ (decode prog_10_method_67_code 66 = .ok (.iload_n 3, 1)) ∧ (decode prog_10_method_67_code 67 = .ok (.invokevirtual 204, 3)) ∧ (decode prog_10_method_67_code 70 = .ok (.aload_n 0, 1)) ∧ (decode prog_10_method_67_code 71 = .ok (.iload_n 2, 1)) ∧ (decode prog_10_method_67_code 72 = .ok (.invokevirtual 204, 3)) ∧ (decode prog_10_method_67_code 75 = .ok (.if_icmp .le 7, 3)) ∧ (decode prog_10_method_67_code 78 = .ok (.iload_n 3, 1)) ∧ (decode prog_10_method_67_code 79 = .ok (.goto 4, 3)) ∧ (decode prog_10_method_67_code 82 = .ok (.iload_n 2, 1)) := by
  have h : List.drop 36 prog_10_method_67_code.data.toList = 0x99 :: _ := rfl
  refine ⟨zq_k_s2 153 (fun z => .ifCond .eq z) 15 h rfl (zq_o_153 _) (by decide +kernel), ?_⟩
  replace h := zq_nx3 (q := 39) h rfl
  refine ⟨zq_k_n 42 h rfl (zq_o_42 _), ?_⟩
  replace h := zq_nx1 (q := 40) h rfl
  refine ⟨zq_k_n 29 h rfl (zq_o_29 _), ?_⟩
  replace h := zq_nx1 (q := 41) h rfl
  refine ⟨zq_k_u2 182 (fun z => .invokevirtual z) 204 h rfl (zq_o_182 _) (by decide +kernel), ?_⟩
  replace h := zq_nx3 (q := 44) h rfl
  refine ⟨zq_k_s2 158 (fun z => .ifCond .le z) 7 h rfl (zq_o_158 _) (by decide +kernel), ?_⟩
  replace h := zq_nx3 (q := 47) h rfl
  refine ⟨zq_k_n 4 h rfl (zq_o_4 _), ?_⟩
  replace h := zq_nx1 (q := 48) h rfl
  refine ⟨zq_k_s2 167 (fun z => .goto z) 4 h rfl (zq_o_167 _) (by decide +kernel), ?_⟩
  replace h := zq_nx3 (q := 51) h rfl
  refine ⟨zq_k_n 3 h rfl (zq_o_3 _), ?_⟩
  replace h := zq_nx1 (q := 52) h rfl
  refine ⟨zq_k_u1 54 (fun z => .istore z) 4 h rfl (zq_o_54 _) (by decide +kernel), ?_⟩
  replace h := zq_nx2 (q := 54) h rfl
  refine ⟨zq_k_u1 21 (fun z => .iload z) 4 h rfl (zq_o_21 _) (by decide +kernel), ?_⟩
  replace h := zq_nx2 (q := 56) h rfl
  refine ⟨zq_k_s2 153 (fun z => .ifCond .eq z) 26 h rfl (zq_o_153 _) (by decide +kernel), ?_⟩
  replace h := zq_nx3 (q := 59) h rfl
  refine ⟨zq_k_n 28 h rfl (zq_o_28 _), ?_⟩
  replace h := zq_nx1 (q := 60) h rfl
  refine ⟨zq_k_s1 16 (fun z => .bipush z) (-4) h rfl (zq_o_16 _) (by decide +kernel), ?_⟩
  replace h := zq_nx2 (q := 62) h rfl
  refine ⟨zq_k_s2 159 (fun z => .if_icmp .eq z) 16 h rfl (zq_o_159 _) (by decide +kernel), ?_⟩
  replace h := zq_nx3 (q := 65) h rfl
  refine ⟨zq_k_n 42 h rfl (zq_o_42 _), ?_⟩
  replace h := zq_nx1 (q := 66) h rfl
  refine ⟨zq_k_n 29 h rfl (zq_o_29 _), ?_⟩
  replace h := zq_nx1 (q := 67) h rfl
  refine ⟨zq_k_u2 182 (fun z => .invokevirtual z) 204 h rfl (zq_o_182 _) (by decide +kernel), ?_⟩
  replace h := zq_nx3 (q := 70) h rfl
  refine ⟨zq_k_n 42 h rfl (zq_o_42 _), ?_⟩
  replace h := zq_nx1 (q := 71) h rfl
  refine ⟨zq_k_n 28 h rfl (zq_o_28 _), ?_⟩
  replace h := zq_nx1 (q := 72) h rfl
  refine ⟨zq_k_u2 182 (fun z => .invokevirtual z) 204 h rfl (zq_o_182 _) (by decide +kernel), ?_⟩
  replace h := zq_nx3 (q := 75) h rfl
  refine ⟨zq_k_s2 164 (fun z => .if_icmp .le z) 7 h rfl (zq_o_164 _) (by decide +kernel), ?_⟩
  replace h := zq_nx3 (q := 78) h rfl
  refine ⟨zq_k_n 29 h rfl (zq_o_29 _), ?_⟩
  replace h := zq_nx1 (q := 79) h rfl
  refine ⟨zq_k_s2 167 (fun z => .goto z) 4 h rfl (zq_o_167 _) (by decide +kernel), ?_⟩
  replace h := zq_nx3 (q := 82) h rfl
  exact zq_k_n 28 h rfl (zq_o_28 _)
theorem d_M_wantedBy_36 : decode prog_10_method_67_code 36 = .ok (.ifCond .eq 15, 3) := dd_M_wantedBy_36.1
theorem d_M_wantedBy_39 : decode prog_10_method_67_code 39 = .ok (.aload_n 0, 1) := dd_M_wantedBy_36.2.1
theorem d_M_wantedBy_40 : decode prog_10_method_67_code 40 = .ok (.iload_n 3, 1) := dd_M_wantedBy_36.2.2.1
theorem d_M_wantedBy_41 : decode prog_10_method_67_code 41 = .ok (.invokevirtual 204, 3) := dd_M_wantedBy_36.2.2.2.1
theorem d_M_wantedBy_44 : decode prog_10_method_67_code 44 = .ok (.ifCond .le 7, 3) := dd_M_wantedBy_36.2.2.2.2.1
theorem d_M_wantedBy_47 : decode prog_10_method_67_code 47 = .ok (.iconst 1, 1) := dd_M_wantedBy_36.2.2.2.2.2.1
theorem d_M_wantedBy_48 : decode prog_10_method_67_code 48 = .ok (.goto 4, 3) := dd_M_wantedBy_36.2.2.2.2.2.2.1
theorem d_M_wantedBy_51 : decode prog_10_method_67_code 51 = .ok (.iconst 0, 1) := dd_M_wantedBy_36.2.2.2.2.2.2.2.1
theorem d_M_wantedBy_52 : decode prog_10_method_67_code 52 = .ok (.istore 4, 2) := dd_M_wantedBy_36.2.2.2.2.2.2.2.2.1
theorem d_M_wantedBy_54 : decode prog_10_method_67_code 54 = .ok (.iload 4, 2) := dd_M_wantedBy_36.2.2.2.2.2.2.2.2.2.1
theorem d_M_wantedBy_56 : decode prog_10_method_67_code 56 = .ok (.ifCond .eq 26, 3) := dd_M_wantedBy_36.2.2.2.2.2.2.2.2.2.2.1
theorem d_M_wantedBy_59 : decode prog_10_method_67_code 59 = .ok (.iload_n 2, 1) := dd_M_wantedBy_36.2.2.2.2.2.2.2.2.2.2.2.1
theorem d_M_wantedBy_60 : decode prog_10_method_67_code 60 = .ok (.bipush (-4), 2) := dd_M_wantedBy_36.2.2.2.2.2.2.2.2.2.2.2.2.1
theorem d_M_wantedBy_62 : decode prog_10_method_67_code 62 = .ok (.if_icmp .eq 16, 3) := dd_M_wantedBy_36.2.2.2.2.2.2.2.2.2.2.2.2.2.1
theorem d_M_wantedBy_65 : decode prog_10_method_67_code 65 = .ok (.aload_n 0, 1) := dd_M_wantedBy_36.2.2.2.2.2.2.2.2.2.2.2.2.2.2.1
theorem d_M_wantedBy_66 : decode prog_10_method_67_code 66 = .ok (.iload_n 3, 1) := dd_M_wantedBy_36.2.2.2.2.2.2.2.2.2.2.2.2.2.2.2.1
theorem d_M_wantedBy_67 : decode prog_10_method_67_code 67 = .ok (.invokevirtual 204, 3) := dd_M_wantedBy_36.2.2.2.2.2.2.2.2.2.2.2.2.2.2.2.2.1
theorem d_M_wantedBy_70 : decode prog_10_method_67_code 70 = .ok (.aload_n 0, 1) := dd_M_wantedBy_36.2.2.2.2.2.2.2.2.2.2.2.2.2.2.2.2.2.1
theorem d_M_wantedBy_71 : decode prog_10_method_67_code 71 = .ok (.iload_n 2, 1) := dd_M_wantedBy_36.2.2.2.2.2.2.2.2.2.2.2.2.2.2.2.2.2.2.1
theorem d_M_wantedBy_72 : decode prog_10_method_67_code 72 = .ok (.invokevirtual 204, 3) := dd_M_wantedBy_36.2.2.2.2.2.2.2.2.2.2.2.2.2.2.2.2.2.2.2.1
theorem d_M_wantedBy_75 : decode prog_10_method_67_code 75 = .ok (.if_icmp .le 7, 3) := dd_M_wantedBy_36.2.2.2.2.2.2.2.2.2.2.2.2.2.2.2.2.2.2.2.2.1
theorem d_M_wantedBy_78 : decode prog_10_method_67_code 78 = .ok (.iload_n 3, 1) := dd_M_wantedBy_36.2.2.2.2.2.2.2.2.2.2.2.2.2.2.2.2.2.2.2.2.2.1
theorem d_M_wantedBy_79 : decode prog_10_method_67_code 79 = .ok (.goto 4, 3) := dd_M_wantedBy_36.2.2.2.2.2.2.2.2.2.2.2.2.2.2.2.2.2.2.2.2.2.2.1
theorem d_M_wantedBy_82 : decode prog_10_method_67_code 82 = .ok (.iload_n 2, 1) := dd_M_wantedBy_36.2.2.2.2.2.2.2.2.2.2.2.2.2.2.2.2.2.2.2.2.2.2.2
set_option maxRecDepth 100000 in
theorem dd_M_wantedBy_83 : (decode prog_10_method_67_code 83 = .ok (.istore_n 2, 1)) ∧ (decode prog_10_method_67_code 84 = .ok (.iinc 3 1, 3)) ∧ (decode prog_10_method_67_code 87 = .ok (.goto (-82), 3)) ∧ (decode prog_10_method_67_code 90 = .ok (.iload_n 2, 1)) ∧ (decode prog_10_method_67_code 91 = .ok (.ireturn, 1)) := by
  have h : List.drop 83 prog_10_method_67_code.data.toList = 0x3d :: _ := rfl
  refine ⟨zq_k_n 61 h rfl (zq_o_61 _), ?_⟩
  replace h := zq_nx1 (q := 84) h rfl
  refine ⟨zq_k_iinc 3 1 h rfl (zq_o_132 _) (by decide +kernel) (by decide +kernel), ?_⟩
  replace h := zq_nx3 (q := 87) h rfl
  refine ⟨zq_k_s2 167 (fun z => .goto z) (-82) h rfl (zq_o_167 _) (by decide +kernel), ?_⟩
  replace h := zq_nx3 (q := 90) h rfl
  refine ⟨zq_k_n 28 h rfl (zq_o_28 _), ?_⟩
  replace h := zq_nx1 (q := 91) h rfl
  exact zq_k_n 172 h rfl (zq_o_172 _)
theorem d_M_wantedBy_83 : decode prog_10_method_67_code 83 = .ok (.istore_n 2, 1) := dd_M_wantedBy_83.1
theorem d_M_wantedBy_84 : decode prog_10_method_67_code 84 = .ok (.iinc 3 1, 3) := dd_M_wantedBy_83.2.1
theorem d_M_wantedBy_87 : decode prog_10_method_67_code 87 = .ok (.goto (-82), 3) := dd_M_wantedBy_83.2.2.1
theorem d_M_wantedBy_90 : decode prog_10_method_67_code 90 = .ok (.iload_n 2, 1) := dd_M_wantedBy_83.2.2.2.1
theorem d_M_wantedBy_91 : decode prog_10_method_67_code 91 = .ok (.ireturn, 1) := dd_M_wantedBy_83.2.2.2.2
def f_M_wantedBy_83 (rec5 : Nat → Int32 → Int32 → Int32 → mH → Option (Int32 × mH)) (b0 : Nat) (b1 : Int32) (b3 : Int32) (s0 : Int32) (h : mH) : Option (Int32 × mH) :=
  rec5 b0 b1 s0 (b3 + (1 : Int32)) h
set_option maxRecDepth 20000 in
theorem t_M_wantedBy_83 {sc : Nat × (Nat → Int32)} (rec5 : Nat → Int32 → Int32 → Int32 → mH → Option (Int32 × mH)) (hrec5 : ∀ (b0 : Nat) (b1 : Int32) (b2 : Int32) (b3 : Int32) (h : mH) (r : Int32) (h' : mH), rec5 b0 b1 b2 b3 h = some (r, h') → G sc y_M_wantedBy prog_10_method_67_code 5 (some .int) 4 89 5 [(0, .ref b0), (1, .int b1), (2, .int b2), (3, .int b3)] [] h (some (.int r)) h') (b0 : Nat) (b1 : Int32) (b3 : Int32) (s0 : Int32) (h : mH) (r : Int32) (h' : mH) (hf : f_M_wantedBy_83 rec5 b0 b1 b3 s0 h = some (r, h')) : G sc y_M_wantedBy prog_10_method_67_code 5 (some .int) 4 89 83 [(0, .ref b0), (1, .int b1), (3, .int b3)] [.int s0] h (some (.int r)) h' := by
  unfold f_M_wantedBy_83 at hf
  refine g_istore_n (pc := 83) [(2, .int s0), (0, .ref b0), (1, .int b1), (3, .int b3)] d_M_wantedBy_83 rfl (Nat.le_of_ble_eq_true rfl) rfl ?_
  refine g_iinc (pc := 84) 3 (b3 + (1 : Int32)) [(3, .int (b3 + (1 : Int32))), (2, .int s0), (0, .ref b0), (1, .int b1)] d_M_wantedBy_84 rfl rfl (Nat.le_of_ble_eq_true rfl) rfl ?_
  refine g_goto (pc := 87) 5 d_M_wantedBy_87 (by decide) ?_
  refine g_lv [2, 3, 1, 0] rfl ?_
  exact hrec5 _ _ _ _ _ _ _  hf
def f_M_wantedBy_82 (rec5 : Nat → Int32 → Int32 → Int32 → mH → Option (Int32 × mH)) (b0 : Nat) (b1 : Int32) (b2 : Int32) (b3 : Int32) (h : mH) : Option (Int32 × mH) :=
  f_M_wantedBy_83 rec5 b0 b1 b3 b2 h
set_option maxRecDepth 20000 in
theorem t_M_wantedBy_82 {sc : Nat × (Nat → Int32)} (rec5 : Nat → Int32 → Int32 → Int32 → mH → Option (Int32 × mH)) (hrec5 : ∀ (b0 : Nat) (b1 : Int32) (b2 : Int32) (b3 : Int32) (h : mH) (r : Int32) (h' : mH), rec5 b0 b1 b2 b3 h = some (r, h') → G sc y_M_wantedBy prog_10_method_67_code 5 (some .int) 4 89 5 [(0, .ref b0), (1, .int b1), (2, .int b2), (3, .int b3)] [] h (some (.int r)) h') (b0 : Nat) (b1 : Int32) (b2 : Int32) (b3 : Int32) (h : mH) (r : Int32) (h' : mH) (hf : f_M_wantedBy_82 rec5 b0 b1 b2 b3 h = some (r, h')) : G sc y_M_wantedBy prog_10_method_67_code 5 (some .int) 4 89 82 [(0, .ref b0), (1, .int b1), (2, .int b2), (3, .int b3)] [] h (some (.int r)) h' := by
  unfold f_M_wantedBy_82 at hf
  refine g_iload_n (pc := 82) 2 d_M_wantedBy_82 rfl rfl ?_
  refine g_lv [0, 1, 3] rfl ?_
  exact t_M_wantedBy_83 rec5 hrec5 _ _ _ _ _ _ _  hf
def f_M_wantedBy_78 (rec5 : Nat → Int32 → Int32 → Int32 → mH → Option (Int32 × mH)) (b0 : Nat) (b1 : Int32) (b3 : Int32) (h : mH) : Option (Int32 × mH) :=
  f_M_wantedBy_83 rec5 b0 b1 b3 b3 h
set_option maxRecDepth 20000 in
theorem t_M_wantedBy_78 {sc : Nat × (Nat → Int32)} (rec5 : Nat → Int32 → Int32 → Int32 → mH → Option (Int32 × mH)) (hrec5 : ∀ (b0 : Nat) (b1 : Int32) (b2 : Int32) (b3 : Int32) (h : mH) (r : Int32) (h' : mH), rec5 b0 b1 b2 b3 h = some (r, h') → G sc y_M_wantedBy prog_10_method_67_code 5 (some .int) 4 89 5 [(0, .ref b0), (1, .int b1), (2, .int b2), (3, .int b3)] [] h (some (.int r)) h') (b0 : Nat) (b1 : Int32) (b3 : Int32) (h : mH) (r : Int32) (h' : mH) (hf : f_M_wantedBy_78 rec5 b0 b1 b3 h = some (r, h')) : G sc y_M_wantedBy prog_10_method_67_code 5 (some .int) 4 89 78 [(0, .ref b0), (1, .int b1), (3, .int b3)] [] h (some (.int r)) h' := by
  unfold f_M_wantedBy_78 at hf
  refine g_iload_n (pc := 78) 2 d_M_wantedBy_78 rfl rfl ?_
  refine g_goto (pc := 79) 83 d_M_wantedBy_79 (by decide) ?_
  refine g_lv [0, 1, 2] rfl ?_
  exact t_M_wantedBy_83 rec5 hrec5 _ _ _ _ _ _ _  hf
def f_M_wantedBy_52 (rec5 : Nat → Int32 → Int32 → Int32 → mH → Option (Int32 × mH)) (b0 : Nat) (b1 : Int32) (b2 : Int32) (b3 : Int32) (s0 : Int32) (h : mH) : Option (Int32 × mH) :=
  if s0 = 0 then
    f_M_wantedBy_82 rec5 b0 b1 b2 b3 h
  else
    if b2 = ((-4) : Int32) then
      f_M_wantedBy_78 rec5 b0 b1 b3 h
    else
      bd1 (kC h b0 8) fun _ =>
      bd2 (f_M_needOf b0 b3 h) fun x25 h23 =>
      bd1 (kC h23 b0 8) fun _ =>
      bd2 (f_M_needOf b0 b2 h23) fun x30 h28 =>
      if x25 ≤ x30 then
        f_M_wantedBy_82 rec5 b0 b1 b2 b3 h28
      else
        f_M_wantedBy_78 rec5 b0 b1 b3 h28
set_option maxRecDepth 20000 in
theorem t_M_wantedBy_52 {sc : Nat × (Nat → Int32)} (rec5 : Nat → Int32 → Int32 → Int32 → mH → Option (Int32 × mH)) (hrec5 : ∀ (b0 : Nat) (b1 : Int32) (b2 : Int32) (b3 : Int32) (h : mH) (r : Int32) (h' : mH), rec5 b0 b1 b2 b3 h = some (r, h') → G sc y_M_wantedBy prog_10_method_67_code 5 (some .int) 4 89 5 [(0, .ref b0), (1, .int b1), (2, .int b2), (3, .int b3)] [] h (some (.int r)) h') (b0 : Nat) (b1 : Int32) (b2 : Int32) (b3 : Int32) (s0 : Int32) (h : mH) (r : Int32) (h' : mH) (hf : f_M_wantedBy_52 rec5 b0 b1 b2 b3 s0 h = some (r, h')) : G sc y_M_wantedBy prog_10_method_67_code 5 (some .int) 4 89 52 [(0, .ref b0), (1, .int b1), (2, .int b2), (3, .int b3)] [.int s0] h (some (.int r)) h' := by
  unfold f_M_wantedBy_52 at hf
  refine g_istore (pc := 52) [(4, .int s0), (0, .ref b0), (1, .int b1), (2, .int b2), (3, .int b3)] d_M_wantedBy_52 (Nat.le_of_ble_eq_true rfl) rfl ?_
  refine g_iload (pc := 54) 0 d_M_wantedBy_54 rfl ?_
  refine g_ifeq (pc := 56) 82 d_M_wantedBy_56 (by decide) (fun c33 => ?_) (fun c33 => ?_)
  · replace hf := (if_pos c33).symm.trans hf
    refine g_lv [1, 2, 3, 4] rfl ?_
    exact t_M_wantedBy_82 rec5 hrec5 _ _ _ _ _ _ _  hf
  · replace hf := (if_neg c33).symm.trans hf
    refine g_iload_n (pc := 59) 3 d_M_wantedBy_59 rfl rfl ?_
    refine g_bipush (pc := 60) ((-4) : Int32) d_M_wantedBy_60 (by decide) ?_
    refine g_icmpeq (pc := 62) 78 d_M_wantedBy_62 (by decide) (fun c32 => ?_) (fun c32 => ?_)
    · replace hf := (if_pos c32).symm.trans hf
      refine g_lv [1, 2, 4] rfl ?_
      exact t_M_wantedBy_78 rec5 hrec5 _ _ _ _ _ _  hf
    · replace hf := (if_neg c32).symm.trans hf
      refine g_aload_n (pc := 65) 1 d_M_wantedBy_65 rfl rfl ?_
      refine g_iload_n (pc := 66) 4 d_M_wantedBy_66 rfl rfl ?_
      obtain ⟨u22, e21, hf⟩ := bd1_e hf
      obtain ⟨x25, h23, e24, hf⟩ := bd2_e hf
      refine g_callV (pc := 67) (ci := 8) [.int b3] (site_of si_M_needOf (by decide) (by decide)) wd_1140 wd_1142 wp_45 d_M_wantedBy_67 rfl e21 (Nat.le_of_ble_eq_true rfl) (fun z => absurd z (by decide)) (fun z => absurd z (by decide)) (fun z => absurd z (by decide)) (c_M_needOf e24) rfl ?_
      refine g_st [.int x25] rfl ?_
      refine g_aload_n (pc := 70) 1 d_M_wantedBy_70 rfl rfl ?_
      refine g_iload_n (pc := 71) 3 d_M_wantedBy_71 rfl rfl ?_
      obtain ⟨u27, e26, hf⟩ := bd1_e hf
      obtain ⟨x30, h28, e29, hf⟩ := bd2_e hf
      refine g_callV (pc := 72) (ci := 8) [.int b2] (site_of si_M_needOf (by decide) (by decide)) wd_1140 wd_1142 wp_45 d_M_wantedBy_72 rfl e26 (Nat.le_of_ble_eq_true rfl) (fun z => absurd z (by decide)) (fun z => absurd z (by decide)) (fun z => absurd z (by decide)) (c_M_needOf e29) rfl ?_
      refine g_st [.int x30, .int x25] rfl ?_
      refine g_icmple (pc := 75) 82 d_M_wantedBy_75 (by decide) (fun c31 => ?_) (fun c31 => ?_)
      · replace hf := (if_pos c31).symm.trans hf
        refine g_lv [1, 2, 3, 4] rfl ?_
        exact t_M_wantedBy_82 rec5 hrec5 _ _ _ _ _ _ _  hf
      · replace hf := (if_neg c31).symm.trans hf
        refine g_lv [1, 2, 4] rfl ?_
        exact t_M_wantedBy_78 rec5 hrec5 _ _ _ _ _ _  hf
def f_M_wantedBy_51 (rec5 : Nat → Int32 → Int32 → Int32 → mH → Option (Int32 × mH)) (b0 : Nat) (b1 : Int32) (b2 : Int32) (b3 : Int32) (h : mH) : Option (Int32 × mH) :=
  f_M_wantedBy_52 rec5 b0 b1 b2 b3 (0 : Int32) h
set_option maxRecDepth 20000 in
theorem t_M_wantedBy_51 {sc : Nat × (Nat → Int32)} (rec5 : Nat → Int32 → Int32 → Int32 → mH → Option (Int32 × mH)) (hrec5 : ∀ (b0 : Nat) (b1 : Int32) (b2 : Int32) (b3 : Int32) (h : mH) (r : Int32) (h' : mH), rec5 b0 b1 b2 b3 h = some (r, h') → G sc y_M_wantedBy prog_10_method_67_code 5 (some .int) 4 89 5 [(0, .ref b0), (1, .int b1), (2, .int b2), (3, .int b3)] [] h (some (.int r)) h') (b0 : Nat) (b1 : Int32) (b2 : Int32) (b3 : Int32) (h : mH) (r : Int32) (h' : mH) (hf : f_M_wantedBy_51 rec5 b0 b1 b2 b3 h = some (r, h')) : G sc y_M_wantedBy prog_10_method_67_code 5 (some .int) 4 89 51 [(0, .ref b0), (1, .int b1), (2, .int b2), (3, .int b3)] [] h (some (.int r)) h' := by
  unfold f_M_wantedBy_51 at hf
  refine g_iconst (pc := 51) (0 : Int32) d_M_wantedBy_51 (by decide) ?_
  refine g_lv [0, 1, 2, 3] rfl ?_
  exact t_M_wantedBy_52 rec5 hrec5 _ _ _ _ _ _ _ _  hf
def f_M_wantedBy_5b (rec5 : Nat → Int32 → Int32 → Int32 → mH → Option (Int32 × mH)) (b0 : Nat) (b1 : Int32) (b2 : Int32) (b3 : Int32) (h : mH) : Option (Int32 × mH) :=
  bd1 (gI h b0 8 2) fun x1 =>
  if x1 ≤ b3 then
    some (b2, h)
  else
    bd1 (gR h b0 8 0) fun x3 =>
    bd1 (aI h 0 x3 ((21 : Int32) + b1)) fun x5 =>
    if ((x5 >>> (b3 &&& 31)) &&& (1 : Int32)) = (1 : Int32) then
      bd1 (kC h b0 8) fun _ =>
      bd2 (f_M_canBreak b0 b1 b3 h) fun x11 h9 =>
      if x11 = 0 then
        f_M_wantedBy_51 rec5 b0 b1 b2 b3 h9
      else
        bd1 (kC h9 b0 8) fun _ =>
        bd2 (f_M_needOf b0 b3 h9) fun x16 h14 =>
        if x16 ≤ 0 then
          f_M_wantedBy_51 rec5 b0 b1 b2 b3 h14
        else
          f_M_wantedBy_52 rec5 b0 b1 b2 b3 (1 : Int32) h14
    else
      f_M_wantedBy_51 rec5 b0 b1 b2 b3 h
set_option maxRecDepth 20000 in
theorem t_M_wantedBy_5b {sc : Nat × (Nat → Int32)} (rec5 : Nat → Int32 → Int32 → Int32 → mH → Option (Int32 × mH)) (hrec5 : ∀ (b0 : Nat) (b1 : Int32) (b2 : Int32) (b3 : Int32) (h : mH) (r : Int32) (h' : mH), rec5 b0 b1 b2 b3 h = some (r, h') → G sc y_M_wantedBy prog_10_method_67_code 5 (some .int) 4 89 5 [(0, .ref b0), (1, .int b1), (2, .int b2), (3, .int b3)] [] h (some (.int r)) h') (b0 : Nat) (b1 : Int32) (b2 : Int32) (b3 : Int32) (h : mH) (r : Int32) (h' : mH) (hf : f_M_wantedBy_5b rec5 b0 b1 b2 b3 h = some (r, h')) : G sc y_M_wantedBy prog_10_method_67_code 5 (some .int) 4 89 5 [(0, .ref b0), (1, .int b1), (2, .int b2), (3, .int b3)] [] h (some (.int r)) h' := by
  unfold f_M_wantedBy_5b at hf
  refine g_iload_n (pc := 5) 3 d_M_wantedBy_5 rfl rfl ?_
  refine g_aload_n (pc := 6) 0 d_M_wantedBy_6 rfl rfl ?_
  obtain ⟨x1, e2, hf⟩ := bd1_e hf
  refine g_get (pc := 7) (ci := 8) (kk := 2) d_M_wantedBy_7 rfl in_M (by decide) wd_940 (gI_spec e2) ?_
  refine g_icmpge (pc := 10) 90 d_M_wantedBy_10 (by decide) (fun c20 => ?_) (fun c20 => ?_)
  · replace hf := (if_pos c20).symm.trans hf
    refine g_iload_n (pc := 90) 2 d_M_wantedBy_90 rfl rfl ?_
    obtain ⟨rfl, rfl⟩ := ret2 hf
    exact g_iret (pc := 91) rfl d_M_wantedBy_91
  · replace hf := (if_neg c20).symm.trans hf
    refine g_aload_n (pc := 13) 0 d_M_wantedBy_13 rfl rfl ?_
    obtain ⟨x3, e4, hf⟩ := bd1_e hf
    refine g_get (pc := 14) (ci := 8) (kk := 0) d_M_wantedBy_14 rfl in_M (by decide) wd_938 (gR_spec e4) ?_
    refine g_bipush (pc := 17) (21 : Int32) d_M_wantedBy_17 (by decide) ?_
    refine g_iload_n (pc := 19) 1 d_M_wantedBy_19 rfl rfl ?_
    refine g_iadd (pc := 20) d_M_wantedBy_20 ?_
    obtain ⟨x5, e6, hf⟩ := bd1_e hf
    refine g_iald (pc := 21) d_M_wantedBy_21 e6 ?_
    refine g_iload_n (pc := 22) 3 d_M_wantedBy_22 rfl rfl ?_
    refine g_ishr (pc := 23) d_M_wantedBy_23 ?_
    refine g_iconst (pc := 24) (1 : Int32) d_M_wantedBy_24 (by decide) ?_
    refine g_iand (pc := 25) d_M_wantedBy_25 ?_
    refine g_iconst (pc := 26) (1 : Int32) d_M_wantedBy_26 (by decide) ?_
    refine g_icmpne (pc := 27) 51 d_M_wantedBy_27 (by decide) (fun c19 => ?_) (fun c19 => ?_)
    · replace hf := (if_neg c19).symm.trans hf
      refine g_lv [0, 1, 2, 3] rfl ?_
      exact t_M_wantedBy_51 rec5 hrec5 _ _ _ _ _ _ _  hf
    · replace hf := (if_pos c19).symm.trans hf
      refine g_aload_n (pc := 30) 0 d_M_wantedBy_30 rfl rfl ?_
      refine g_iload_n (pc := 31) 1 d_M_wantedBy_31 rfl rfl ?_
      refine g_iload_n (pc := 32) 3 d_M_wantedBy_32 rfl rfl ?_
      obtain ⟨u8, e7, hf⟩ := bd1_e hf
      obtain ⟨x11, h9, e10, hf⟩ := bd2_e hf
      refine g_callV (pc := 33) (ci := 8) [.int b1, .int b3] (site_of si_M_canBreak (by decide) (by decide)) wd_1164 wd_1166 wp_50 d_M_wantedBy_33 rfl e7 (Nat.le_of_ble_eq_true rfl) (fun z => absurd z (by decide)) (fun z => absurd z (by decide)) (fun z => absurd z (by decide)) (c_M_canBreak e10) rfl ?_
      refine g_st [.int x11] rfl ?_
      refine g_ifeq (pc := 36) 51 d_M_wantedBy_36 (by decide) (fun c18 => ?_) (fun c18 => ?_)
      · replace hf := (if_pos c18).symm.trans hf
        refine g_lv [0, 1, 2, 3] rfl ?_
        exact t_M_wantedBy_51 rec5 hrec5 _ _ _ _ _ _ _  hf
      · replace hf := (if_neg c18).symm.trans hf
        refine g_aload_n (pc := 39) 0 d_M_wantedBy_39 rfl rfl ?_
        refine g_iload_n (pc := 40) 3 d_M_wantedBy_40 rfl rfl ?_
        obtain ⟨u13, e12, hf⟩ := bd1_e hf
        obtain ⟨x16, h14, e15, hf⟩ := bd2_e hf
        refine g_callV (pc := 41) (ci := 8) [.int b3] (site_of si_M_needOf (by decide) (by decide)) wd_1140 wd_1142 wp_45 d_M_wantedBy_41 rfl e12 (Nat.le_of_ble_eq_true rfl) (fun z => absurd z (by decide)) (fun z => absurd z (by decide)) (fun z => absurd z (by decide)) (c_M_needOf e15) rfl ?_
        refine g_st [.int x16] rfl ?_
        refine g_ifle (pc := 44) 51 d_M_wantedBy_44 (by decide) (fun c17 => ?_) (fun c17 => ?_)
        · replace hf := (if_pos c17).symm.trans hf
          refine g_lv [0, 1, 2, 3] rfl ?_
          exact t_M_wantedBy_51 rec5 hrec5 _ _ _ _ _ _ _  hf
        · replace hf := (if_neg c17).symm.trans hf
          refine g_iconst (pc := 47) (1 : Int32) d_M_wantedBy_47 (by decide) ?_
          refine g_goto (pc := 48) 52 d_M_wantedBy_48 (by decide) ?_
          refine g_lv [0, 1, 2, 3] rfl ?_
          exact t_M_wantedBy_52 rec5 hrec5 _ _ _ _ _ _ _ _  hf
def f_M_wantedBy_5  : Nat → Nat → Int32 → Int32 → Int32 → mH → Option (Int32 × mH)
  | 0 => fun _ _ _ _ _ => none
  | n + 1 => f_M_wantedBy_5b  (f_M_wantedBy_5  n)
theorem t_M_wantedBy_5 {sc : Nat × (Nat → Int32)}  : ∀ (n : Nat) (b0 : Nat) (b1 : Int32) (b2 : Int32) (b3 : Int32) (h : mH) (r : Int32) (h' : mH) (hf : f_M_wantedBy_5  n b0 b1 b2 b3 h = some (r, h')), G sc y_M_wantedBy prog_10_method_67_code 5 (some .int) 4 89 5 [(0, .ref b0), (1, .int b1), (2, .int b2), (3, .int b3)] [] h (some (.int r)) h'
  | 0, _, _, _, _, _, _, _, hf => by cases hf
  | n + 1, _, _, _, _, _, _, _, hf => t_M_wantedBy_5b  (f_M_wantedBy_5  n) (t_M_wantedBy_5  n) _ _ _ _ _ _ _ hf
def f_M_wantedBy_0  (a0 : Nat) (a1 : Int32) (h : mH) : Option (Int32 × mH) :=
  f_M_wantedBy_5  FU a0 a1 ((-4) : Int32) (0 : Int32) h
set_option maxRecDepth 20000 in
theorem t_M_wantedBy_0 {sc : Nat × (Nat → Int32)}  (a0 : Nat) (a1 : Int32) (h : mH) (r : Int32) (h' : mH) (hf : f_M_wantedBy_0  a0 a1 h = some (r, h')) : G sc y_M_wantedBy prog_10_method_67_code 5 (some .int) 4 89 0 [(0, .ref a0), (1, .int a1)] [] h (some (.int r)) h' := by
  unfold f_M_wantedBy_0 at hf
  refine g_bipush (pc := 0) ((-4) : Int32) d_M_wantedBy_0 (by decide) ?_
  refine g_istore_n (pc := 2) [(2, .int ((-4) : Int32)), (0, .ref a0), (1, .int a1)] d_M_wantedBy_2 rfl (Nat.le_of_ble_eq_true rfl) rfl ?_
  refine g_iconst (pc := 3) (0 : Int32) d_M_wantedBy_3 (by decide) ?_
  refine g_istore_n (pc := 4) [(3, .int (0 : Int32)), (2, .int ((-4) : Int32)), (0, .ref a0), (1, .int a1)] d_M_wantedBy_4 rfl (Nat.le_of_ble_eq_true rfl) rfl ?_
  refine g_lv [2, 3, 1, 0] rfl ?_
  exact t_M_wantedBy_5  FU _ _ _ _ _ _ _  hf
def f_M_wantedBy (a0 : Nat) (a1 : Int32) (h : mH) : Option (Int32 × mH) := f_M_wantedBy_0 a0 a1 h
theorem c_M_wantedBy {sc : Nat × (Nat → Int32)} {a0 : Nat} {a1 : Int32} {h : mH} {r : Int32} {h' : mH} (hf : f_M_wantedBy a0 a1 h = some (r, h')) : MM sc y_M_wantedBy prog_10_method_67_code 5 (some .int) 4 89 [.ref a0, .int a1] h (some (.int r)) h' :=
  mm_of_G (by decide) (Nat.le_of_ble_eq_true rfl) (t_M_wantedBy_0 _ _ _ _ _ hf)
