/-! Q together (I)I -/
set_option maxRecDepth 100000 in
theorem dd_Q_together_0 : (decode prog_1_method_24_code 0 = .ok (.iload_n 1, 1)) ∧ (decode prog_1_method_24_code 1 = .ok (.iconst 0, 1)) ∧ (decode prog_1_method_24_code 2 = .ok (.iconst 1, 1)) ∧ (decode prog_1_method_24_code 3 = .ok (.invokestatic 62, 3)) ∧ (decode prog_1_method_24_code 6 = .ok (.ifCond .ne 5, 3)) ∧ (decode prog_1_method_24_code 9 = .ok (.iconst (-1), 1)) ∧ (decode prog_1_method_24_code 10 = .ok (.ireturn, 1)) ∧ (decode prog_1_method_24_code 11 = .ok (.aload_n 0, 1)) ∧ (decode prog_1_method_24_code 12 = .ok (.getfield 43, 3)) ∧ (decode prog_1_method_24_code 15 = .ok (.aload_n 0, 1)) ∧ (decode prog_1_method_24_code 16 = .ok (.getfield 19, 3)) ∧ (decode prog_1_method_24_code 19 = .ok (.invokevirtual 195, 3)) ∧ (decode prog_1_method_24_code 22 = .ok (.iconst 0, 1)) ∧ (decode prog_1_method_24_code 23 = .ok (.istore_n 2, 1)) ∧ (decode prog_1_method_24_code 24 = .ok (.iconst 0, 1)) ∧ (decode prog_1_method_24_code 25 = .ok (.istore_n 3, 1)) ∧ (decode prog_1_method_24_code 26 = .ok (.iload_n 3, 1)) ∧ (decode prog_1_method_24_code 27 = .ok (.aload_n 0, 1)) ∧ (decode prog_1_method_24_code 28 = .ok (.getfield 19, 3)) ∧ (decode prog_1_method_24_code 31 = .ok (.getfield 103, 3)) ∧ (decode prog_1_method_24_code 34 = .ok (.if_icmp .gt 59, 3)) ∧ (decode prog_1_method_24_code 37 = .ok (.iload_n 3, 1)) ∧ (decode prog_1_method_24_code 38 = .ok (.invokestatic 180, 3)) ∧ (decode prog_1_method_24_code 41 = .ok (.iload_n 2, 1)) := by
  have h : List.drop 0 prog_1_method_24_code.data.toList = 0x1b :: _ := rfl
  refine ⟨zq_k_n 27 h rfl (zq_o_27 _), ?_⟩
  replace h := zq_nx1 (q := 1) h rfl
  refine ⟨zq_k_n 3 h rfl (zq_o_3 _), ?_⟩
  replace h := zq_nx1 (q := 2) h rfl
  refine ⟨zq_k_n 4 h rfl (zq_o_4 _), ?_⟩
  replace h := zq_nx1 (q := 3) h rfl
  refine ⟨zq_k_u2 184 (fun z => .invokestatic z) 62 h rfl (zq_o_184 _) (by decide +kernel), ?_⟩
  replace h := zq_nx3 (q := 6) h rfl
  refine ⟨zq_k_s2 154 (fun z => .ifCond .ne z) 5 h rfl (zq_o_154 _) (by decide +kernel), ?_⟩
  replace h := zq_nx3 (q := 9) h rfl
  refine ⟨zq_k_n 2 h rfl (zq_o_2 _), ?_⟩
  replace h := zq_nx1 (q := 10) h rfl
  refine ⟨zq_k_n 172 h rfl (zq_o_172 _), ?_⟩
  replace h := zq_nx1 (q := 11) h rfl
  refine ⟨zq_k_n 42 h rfl (zq_o_42 _), ?_⟩
  replace h := zq_nx1 (q := 12) h rfl
  refine ⟨zq_k_u2 180 (fun z => .getfield z) 43 h rfl (zq_o_180 _) (by decide +kernel), ?_⟩
  replace h := zq_nx3 (q := 15) h rfl
  refine ⟨zq_k_n 42 h rfl (zq_o_42 _), ?_⟩
  replace h := zq_nx1 (q := 16) h rfl
  refine ⟨zq_k_u2 180 (fun z => .getfield z) 19 h rfl (zq_o_180 _) (by decide +kernel), ?_⟩
  replace h := zq_nx3 (q := 19) h rfl
  refine ⟨zq_k_u2 182 (fun z => .invokevirtual z) 195 h rfl (zq_o_182 _) (by decide +kernel), ?_⟩
  replace h := zq_nx3 (q := 22) h rfl
  refine ⟨zq_k_n 3 h rfl (zq_o_3 _), ?_⟩
  replace h := zq_nx1 (q := 23) h rfl
  refine ⟨zq_k_n 61 h rfl (zq_o_61 _), ?_⟩
  replace h := zq_nx1 (q := 24) h rfl
  refine ⟨zq_k_n 3 h rfl (zq_o_3 _), ?_⟩
  replace h := zq_nx1 (q := 25) h rfl
  refine ⟨zq_k_n 62 h rfl (zq_o_62 _), ?_⟩
  replace h := zq_nx1 (q := 26) h rfl
  refine ⟨zq_k_n 29 h rfl (zq_o_29 _), ?_⟩
  replace h := zq_nx1 (q := 27) h rfl
  refine ⟨zq_k_n 42 h rfl (zq_o_42 _), ?_⟩
  replace h := zq_nx1 (q := 28) h rfl
  refine ⟨zq_k_u2 180 (fun z => .getfield z) 19 h rfl (zq_o_180 _) (by decide +kernel), ?_⟩
  replace h := zq_nx3 (q := 31) h rfl
  refine ⟨zq_k_u2 180 (fun z => .getfield z) 103 h rfl (zq_o_180 _) (by decide +kernel), ?_⟩
  replace h := zq_nx3 (q := 34) h rfl
  refine ⟨zq_k_s2 163 (fun z => .if_icmp .gt z) 59 h rfl (zq_o_163 _) (by decide +kernel), ?_⟩
  replace h := zq_nx3 (q := 37) h rfl
  refine ⟨zq_k_n 29 h rfl (zq_o_29 _), ?_⟩
  replace h := zq_nx1 (q := 38) h rfl
  refine ⟨zq_k_u2 184 (fun z => .invokestatic z) 180 h rfl (zq_o_184 _) (by decide +kernel), ?_⟩
  replace h := zq_nx3 (q := 41) h rfl
  exact zq_k_n 28 h rfl (zq_o_28 _)
theorem d_Q_together_0 : decode prog_1_method_24_code 0 = .ok (.iload_n 1, 1) := dd_Q_together_0.1
theorem d_Q_together_1 : decode prog_1_method_24_code 1 = .ok (.iconst 0, 1) := dd_Q_together_0.2.1
theorem d_Q_together_2 : decode prog_1_method_24_code 2 = .ok (.iconst 1, 1) := dd_Q_together_0.2.2.1
theorem d_Q_together_3 : decode prog_1_method_24_code 3 = .ok (.invokestatic 62, 3) := dd_Q_together_0.2.2.2.1
theorem d_Q_together_6 : decode prog_1_method_24_code 6 = .ok (.ifCond .ne 5, 3) := dd_Q_together_0.2.2.2.2.1
theorem d_Q_together_9 : decode prog_1_method_24_code 9 = .ok (.iconst (-1), 1) := dd_Q_together_0.2.2.2.2.2.1
theorem d_Q_together_10 : decode prog_1_method_24_code 10 = .ok (.ireturn, 1) := dd_Q_together_0.2.2.2.2.2.2.1
theorem d_Q_together_11 : decode prog_1_method_24_code 11 = .ok (.aload_n 0, 1) := dd_Q_together_0.2.2.2.2.2.2.2.1
theorem d_Q_together_12 : decode prog_1_method_24_code 12 = .ok (.getfield 43, 3) := dd_Q_together_0.2.2.2.2.2.2.2.2.1
theorem d_Q_together_15 : decode prog_1_method_24_code 15 = .ok (.aload_n 0, 1) := dd_Q_together_0.2.2.2.2.2.2.2.2.2.1
theorem d_Q_together_16 : decode prog_1_method_24_code 16 = .ok (.getfield 19, 3) := dd_Q_together_0.2.2.2.2.2.2.2.2.2.2.1
theorem d_Q_together_19 : decode prog_1_method_24_code 19 = .ok (.invokevirtual 195, 3) := dd_Q_together_0.2.2.2.2.2.2.2.2.2.2.2.1
theorem d_Q_together_22 : decode prog_1_method_24_code 22 = .ok (.iconst 0, 1) := dd_Q_together_0.2.2.2.2.2.2.2.2.2.2.2.2.1
theorem d_Q_together_23 : decode prog_1_method_24_code 23 = .ok (.istore_n 2, 1) := dd_Q_together_0.2.2.2.2.2.2.2.2.2.2.2.2.2.1
theorem d_Q_together_24 : decode prog_1_method_24_code 24 = .ok (.iconst 0, 1) := dd_Q_together_0.2.2.2.2.2.2.2.2.2.2.2.2.2.2.1
theorem d_Q_together_25 : decode prog_1_method_24_code 25 = .ok (.istore_n 3, 1) := dd_Q_together_0.2.2.2.2.2.2.2.2.2.2.2.2.2.2.2.1
theorem d_Q_together_26 : decode prog_1_method_24_code 26 = .ok (.iload_n 3, 1) := dd_Q_together_0.2.2.2.2.2.2.2.2.2.2.2.2.2.2.2.2.1
theorem d_Q_together_27 : decode prog_1_method_24_code 27 = .ok (.aload_n 0, 1) := dd_Q_together_0.2.2.2.2.2.2.2.2.2.2.2.2.2.2.2.2.2.1
theorem d_Q_together_28 : decode prog_1_method_24_code 28 = .ok (.getfield 19, 3) := dd_Q_together_0.2.2.2.2.2.2.2.2.2.2.2.2.2.2.2.2.2.2.1
theorem d_Q_together_31 : decode prog_1_method_24_code 31 = .ok (.getfield 103, 3) := dd_Q_together_0.2.2.2.2.2.2.2.2.2.2.2.2.2.2.2.2.2.2.2.1
theorem d_Q_together_34 : decode prog_1_method_24_code 34 = .ok (.if_icmp .gt 59, 3) := dd_Q_together_0.2.2.2.2.2.2.2.2.2.2.2.2.2.2.2.2.2.2.2.2.1
theorem d_Q_together_37 : decode prog_1_method_24_code 37 = .ok (.iload_n 3, 1) := dd_Q_together_0.2.2.2.2.2.2.2.2.2.2.2.2.2.2.2.2.2.2.2.2.2.1
theorem d_Q_together_38 : decode prog_1_method_24_code 38 = .ok (.invokestatic 180, 3) := dd_Q_together_0.2.2.2.2.2.2.2.2.2.2.2.2.2.2.2.2.2.2.2.2.2.2.1
theorem d_Q_together_41 : decode prog_1_method_24_code 41 = .ok (.iload_n 2, 1) := dd_Q_together_0.2.2.2.2.2.2.2.2.2.2.2.2.2.2.2.2.2.2.2.2.2.2.2
set_option maxRecDepth 100000 in
theorem dd_Q_together_42 : (decode prog_1_method_24_code 42 = .ok (.invokestatic 180, 3)) ∧ (decode prog_1_method_24_code 45 = .ok (.if_icmp .le 7, 3)) ∧ (decode prog_1_method_24_code 48 = .ok (.iconst 1, 1)) ∧ (decode prog_1_method_24_code 49 = .ok (.goto 4, 3)) ∧ (decode prog_1_method_24_code 52 = .ok (.iconst 0, 1)) ∧ (decode prog_1_method_24_code 53 = .ok (.istore 4, 2)) ∧ (decode prog_1_method_24_code 55 = .ok (.iload 4, 2)) ∧ (decode prog_1_method_24_code 57 = .ok (.ifCond .eq 30, 3)) ∧ (decode prog_1_method_24_code 60 = .ok (.iload_n 3, 1)) ∧ (decode prog_1_method_24_code 61 = .ok (.aload_n 0, 1)) ∧ (decode prog_1_method_24_code 62 = .ok (.getfield 19, 3)) ∧ (decode prog_1_method_24_code 65 = .ok (.getfield 103, 3)) ∧ (decode prog_1_method_24_code 68 = .ok (.invokestatic 211, 3)) ∧ (decode prog_1_method_24_code 71 = .ok (.ifCond .eq 16, 3)) ∧ (decode prog_1_method_24_code 74 = .ok (.aload_n 0, 1)) ∧ (decode prog_1_method_24_code 75 = .ok (.getfield 43, 3)) ∧ (decode prog_1_method_24_code 78 = .ok (.iload_n 3, 1)) ∧ (decode prog_1_method_24_code 79 = .ok (.invokevirtual 208, 3)) ∧ (decode prog_1_method_24_code 82 = .ok (.ifCond .eq 5, 3)) ∧ (decode prog_1_method_24_code 85 = .ok (.iload_n 3, 1)) ∧ (decode prog_1_method_24_code 86 = .ok (.istore_n 2, 1)) ∧ (decode prog_1_method_24_code 87 = .ok (.iinc 3 1, 3)) ∧ (decode prog_1_method_24_code 90 = .ok (.goto (-64), 3)) ∧ (decode prog_1_method_24_code 93 = .ok (.iload_n 1, 1)) := by
  have h : List.drop 42 prog_1_method_24_code.data.toList = 0xb8 :: _ := rfl
  refine ⟨zq_k_u2 184 (fun z => .invokestatic z) 180 h rfl (zq_o_184 _) (by decide +kernel), ?_⟩
  replace h := zq_nx3 (q := 45) h rfl
  refine ⟨zq_k_s2 164 (fun z => .if_icmp .le z) 7 h rfl (zq_o_164 _) (by decide +kernel), ?_⟩
  replace h := zq_nx3 (q := 48) h rfl
  refine ⟨zq_k_n 4 h rfl (zq_o_4 _), ?_⟩
  replace h := zq_nx1 (q := 49) h rfl
  refine ⟨zq_k_s2 167 (fun z => .goto z) 4 h rfl (zq_o_167 _) (by decide +kernel), ?_⟩
  replace h := zq_nx3 (q := 52) h rfl
  refine ⟨zq_k_n 3 h rfl (zq_o_3 _), ?_⟩
  replace h := zq_nx1 (q := 53) h rfl
  refine ⟨zq_k_u1 54 (fun z => .istore z) 4 h rfl (zq_o_54 _) (by decide +kernel), ?_⟩
  replace h := zq_nx2 (q := 55) h rfl
  refine ⟨zq_k_u1 21 (fun z => .iload z) 4 h rfl (zq_o_21 _) (by decide +kernel), ?_⟩
  replace h := zq_nx2 (q := 57) h rfl
  refine ⟨zq_k_s2 153 (fun z => .ifCond .eq z) 30 h rfl (zq_o_153 _) (by decide +kernel), ?_⟩
  replace h := zq_nx3 (q := 60) h rfl
  refine ⟨zq_k_n 29 h rfl (zq_o_29 _), ?_⟩
  replace h := zq_nx1 (q := 61) h rfl
  refine ⟨zq_k_n 42 h rfl (zq_o_42 _), ?_⟩
  replace h := zq_nx1 (q := 62) h rfl
  refine ⟨zq_k_u2 180 (fun z => .getfield z) 19 h rfl (zq_o_180 _) (by decide +kernel), ?_⟩
  replace h := zq_nx3 (q := 65) h rfl
  refine ⟨zq_k_u2 180 (fun z => .getfield z) 103 h rfl (zq_o_180 _) (by decide +kernel), ?_⟩
  replace h := zq_nx3 (q := 68) h rfl
  refine ⟨zq_k_u2 184 (fun z => .invokestatic z) 211 h rfl (zq_o_184 _) (by decide +kernel), ?_⟩
  replace h := zq_nx3 (q := 71) h rfl
  refine ⟨zq_k_s2 153 (fun z => .ifCond .eq z) 16 h rfl (zq_o_153 _) (by decide +kernel), ?_⟩
  replace h := zq_nx3 (q := 74) h rfl
  refine ⟨zq_k_n 42 h rfl (zq_o_42 _), ?_⟩
  replace h := zq_nx1 (q := 75) h rfl
  refine ⟨zq_k_u2 180 (fun z => .getfield z) 43 h rfl (zq_o_180 _) (by decide +kernel), ?_⟩
  replace h := zq_nx3 (q := 78) h rfl
  refine ⟨zq_k_n 29 h rfl (zq_o_29 _), ?_⟩
  replace h := zq_nx1 (q := 79) h rfl
  refine ⟨zq_k_u2 182 (fun z => .invokevirtual z) 208 h rfl (zq_o_182 _) (by decide +kernel), ?_⟩
  replace h := zq_nx3 (q := 82) h rfl
  refine ⟨zq_k_s2 153 (fun z => .ifCond .eq z) 5 h rfl (zq_o_153 _) (by decide +kernel), ?_⟩
  replace h := zq_nx3 (q := 85) h rfl
  refine ⟨zq_k_n 29 h rfl (zq_o_29 _), ?_⟩
  replace h := zq_nx1 (q := 86) h rfl
  refine ⟨zq_k_n 61 h rfl (zq_o_61 _), ?_⟩
  replace h := zq_nx1 (q := 87) h rfl
  refine ⟨zq_k_iinc 3 1 h rfl (zq_o_132 _) (by decide +kernel) (by decide +kernel), ?_⟩
  replace h := zq_nx3 (q := 90) h rfl
  refine ⟨zq_k_s2 167 (fun z => .goto z) (-64) h rfl (zq_o_167 _) (by decide +kernel), ?_⟩
  replace h := zq_nx3 (q := 93) h rfl
  exact zq_k_n 27 h rfl (zq_o_27 _)
theorem d_Q_together_42 : decode prog_1_method_24_code 42 = .ok (.invokestatic 180, 3) := dd_Q_together_42.1
theorem d_Q_together_45 : decode prog_1_method_24_code 45 = .ok (.if_icmp .le 7, 3) := dd_Q_together_42.2.1
theorem d_Q_together_48 : decode prog_1_method_24_code 48 = .ok (.iconst 1, 1) := dd_Q_together_42.2.2.1
theorem d_Q_together_49 : decode prog_1_method_24_code 49 = .ok (.goto 4, 3) := dd_Q_together_42.2.2.2.1
theorem d_Q_together_52 : decode prog_1_method_24_code 52 = .ok (.iconst 0, 1) := dd_Q_together_42.2.2.2.2.1
theorem d_Q_together_53 : decode prog_1_method_24_code 53 = .ok (.istore 4, 2) := dd_Q_together_42.2.2.2.2.2.1
theorem d_Q_together_55 : decode prog_1_method_24_code 55 = .ok (.iload 4, 2) := dd_Q_together_42.2.2.2.2.2.2.1
theorem d_Q_together_57 : decode prog_1_method_24_code 57 = .ok (.ifCond .eq 30, 3) := dd_Q_together_42.2.2.2.2.2.2.2.1
theorem d_Q_together_60 : decode prog_1_method_24_code 60 = .ok (.iload_n 3, 1) := dd_Q_together_42.2.2.2.2.2.2.2.2.1
theorem d_Q_together_61 : decode prog_1_method_24_code 61 = .ok (.aload_n 0, 1) := dd_Q_together_42.2.2.2.2.2.2.2.2.2.1
theorem d_Q_together_62 : decode prog_1_method_24_code 62 = .ok (.getfield 19, 3) := dd_Q_together_42.2.2.2.2.2.2.2.2.2.2.1
theorem d_Q_together_65 : decode prog_1_method_24_code 65 = .ok (.getfield 103, 3) := dd_Q_together_42.2.2.2.2.2.2.2.2.2.2.2.1
theorem d_Q_together_68 : decode prog_1_method_24_code 68 = .ok (.invokestatic 211, 3) := dd_Q_together_42.2.2.2.2.2.2.2.2.2.2.2.2.1
theorem d_Q_together_71 : decode prog_1_method_24_code 71 = .ok (.ifCond .eq 16, 3) := dd_Q_together_42.2.2.2.2.2.2.2.2.2.2.2.2.2.1
theorem d_Q_together_74 : decode prog_1_method_24_code 74 = .ok (.aload_n 0, 1) := dd_Q_together_42.2.2.2.2.2.2.2.2.2.2.2.2.2.2.1
theorem d_Q_together_75 : decode prog_1_method_24_code 75 = .ok (.getfield 43, 3) := dd_Q_together_42.2.2.2.2.2.2.2.2.2.2.2.2.2.2.2.1
theorem d_Q_together_78 : decode prog_1_method_24_code 78 = .ok (.iload_n 3, 1) := dd_Q_together_42.2.2.2.2.2.2.2.2.2.2.2.2.2.2.2.2.1
theorem d_Q_together_79 : decode prog_1_method_24_code 79 = .ok (.invokevirtual 208, 3) := dd_Q_together_42.2.2.2.2.2.2.2.2.2.2.2.2.2.2.2.2.2.1
theorem d_Q_together_82 : decode prog_1_method_24_code 82 = .ok (.ifCond .eq 5, 3) := dd_Q_together_42.2.2.2.2.2.2.2.2.2.2.2.2.2.2.2.2.2.2.1
theorem d_Q_together_85 : decode prog_1_method_24_code 85 = .ok (.iload_n 3, 1) := dd_Q_together_42.2.2.2.2.2.2.2.2.2.2.2.2.2.2.2.2.2.2.2.1
theorem d_Q_together_86 : decode prog_1_method_24_code 86 = .ok (.istore_n 2, 1) := dd_Q_together_42.2.2.2.2.2.2.2.2.2.2.2.2.2.2.2.2.2.2.2.2.1
theorem d_Q_together_87 : decode prog_1_method_24_code 87 = .ok (.iinc 3 1, 3) := dd_Q_together_42.2.2.2.2.2.2.2.2.2.2.2.2.2.2.2.2.2.2.2.2.2.1
theorem d_Q_together_90 : decode prog_1_method_24_code 90 = .ok (.goto (-64), 3) := dd_Q_together_42.2.2.2.2.2.2.2.2.2.2.2.2.2.2.2.2.2.2.2.2.2.2.1
theorem d_Q_together_93 : decode prog_1_method_24_code 93 = .ok (.iload_n 1, 1) := dd_Q_together_42.2.2.2.2.2.2.2.2.2.2.2.2.2.2.2.2.2.2.2.2.2.2.2
set_option maxRecDepth 100000 in
theorem dd_Q_together_94 : (decode prog_1_method_24_code 94 = .ok (.ifCond .ne 10, 3)) ∧ (decode prog_1_method_24_code 97 = .ok (.iload_n 2, 1)) ∧ (decode prog_1_method_24_code 98 = .ok (.invokestatic 180, 3)) ∧ (decode prog_1_method_24_code 101 = .ok (.goto 4, 3)) ∧ (decode prog_1_method_24_code 104 = .ok (.iload_n 2, 1)) ∧ (decode prog_1_method_24_code 105 = .ok (.ireturn, 1)) := by
  have h : List.drop 94 prog_1_method_24_code.data.toList = 0x9a :: _ := rfl
  refine ⟨zq_k_s2 154 (fun z => .ifCond .ne z) 10 h rfl (zq_o_154 _) (by decide +kernel), ?_⟩
  replace h := zq_nx3 (q := 97) h rfl
  refine ⟨zq_k_n 28 h rfl (zq_o_28 _), ?_⟩
  replace h := zq_nx1 (q := 98) h rfl
  refine ⟨zq_k_u2 184 (fun z => .invokestatic z) 180 h rfl (zq_o_184 _) (by decide +kernel), ?_⟩
  replace h := zq_nx3 (q := 101) h rfl
  refine ⟨zq_k_s2 167 (fun z => .goto z) 4 h rfl (zq_o_167 _) (by decide +kernel), ?_⟩
  replace h := zq_nx3 (q := 104) h rfl
  refine ⟨zq_k_n 28 h rfl (zq_o_28 _), ?_⟩
  replace h := zq_nx1 (q := 105) h rfl
  exact zq_k_n 172 h rfl (zq_o_172 _)
theorem d_Q_together_94 : decode prog_1_method_24_code 94 = .ok (.ifCond .ne 10, 3) := dd_Q_together_94.1
theorem d_Q_together_97 : decode prog_1_method_24_code 97 = .ok (.iload_n 2, 1) := dd_Q_together_94.2.1
theorem d_Q_together_98 : decode prog_1_method_24_code 98 = .ok (.invokestatic 180, 3) := dd_Q_together_94.2.2.1
theorem d_Q_together_101 : decode prog_1_method_24_code 101 = .ok (.goto 4, 3) := dd_Q_together_94.2.2.2.1
theorem d_Q_together_104 : decode prog_1_method_24_code 104 = .ok (.iload_n 2, 1) := dd_Q_together_94.2.2.2.2.1
theorem d_Q_together_105 : decode prog_1_method_24_code 105 = .ok (.ireturn, 1) := dd_Q_together_94.2.2.2.2.2
def f_Q_together_87 (rec26 : Nat → Int32 → Int32 → Int32 → mH → Option (Int32 × mH)) (b0 : Nat) (b1 : Int32) (b2 : Int32) (b3 : Int32) (h : mH) : Option (Int32 × mH) :=
  rec26 b0 b1 b2 (b3 + (1 : Int32)) h
set_option maxRecDepth 20000 in
theorem t_Q_together_87 {sc : Nat × (Nat → Int32)} (rec26 : Nat → Int32 → Int32 → Int32 → mH → Option (Int32 × mH)) (hrec26 : ∀ (b0 : Nat) (b1 : Int32) (b2 : Int32) (b3 : Int32) (h : mH) (r : Int32) (h' : mH), rec26 b0 b1 b2 b3 h = some (r, h') → G sc y_Q_together prog_1_method_24_code 5 (some .int) 3 68 26 [(0, .ref b0), (1, .int b1), (2, .int b2), (3, .int b3)] [] h (some (.int r)) h') (b0 : Nat) (b1 : Int32) (b2 : Int32) (b3 : Int32) (h : mH) (r : Int32) (h' : mH) (hf : f_Q_together_87 rec26 b0 b1 b2 b3 h = some (r, h')) : G sc y_Q_together prog_1_method_24_code 5 (some .int) 3 68 87 [(0, .ref b0), (1, .int b1), (2, .int b2), (3, .int b3)] [] h (some (.int r)) h' := by
  unfold f_Q_together_87 at hf
  refine g_iinc (pc := 87) 3 (b3 + (1 : Int32)) [(3, .int (b3 + (1 : Int32))), (0, .ref b0), (1, .int b1), (2, .int b2)] d_Q_together_87 rfl rfl (Nat.le_of_ble_eq_true rfl) rfl ?_
  refine g_goto (pc := 90) 26 d_Q_together_90 (by decide) ?_
  refine g_lv [1, 2, 3, 0] rfl ?_
  exact hrec26 _ _ _ _ _ _ _  hf
def f_Q_together_53 (rec26 : Nat → Int32 → Int32 → Int32 → mH → Option (Int32 × mH)) (b0 : Nat) (b1 : Int32) (b2 : Int32) (b3 : Int32) (s0 : Int32) (h : mH) : Option (Int32 × mH) :=
  if s0 = 0 then
    f_Q_together_87 rec26 b0 b1 b2 b3 h
  else
    bd1 (gR h b0 0 1) fun x29 =>
    bd1 (gI h x29 4 4) fun x31 =>
    bd2 (f_Q_isPart b3 x31 h) fun x35 h33 =>
    if x35 = 0 then
      f_Q_together_87 rec26 b0 b1 b2 b3 h33
    else
      bd1 (gR h33 b0 0 6) fun x36 =>
      bd1 (kC h33 x36 2) fun _ =>
      bd2 (f_Planner_canMeet x36 b3 h33) fun x42 h40 =>
      if x42 = 0 then
        f_Q_together_87 rec26 b0 b1 b2 b3 h40
      else
        f_Q_together_87 rec26 b0 b1 b3 b3 h40
set_option maxRecDepth 20000 in
theorem t_Q_together_53 {sc : Nat × (Nat → Int32)} (rec26 : Nat → Int32 → Int32 → Int32 → mH → Option (Int32 × mH)) (hrec26 : ∀ (b0 : Nat) (b1 : Int32) (b2 : Int32) (b3 : Int32) (h : mH) (r : Int32) (h' : mH), rec26 b0 b1 b2 b3 h = some (r, h') → G sc y_Q_together prog_1_method_24_code 5 (some .int) 3 68 26 [(0, .ref b0), (1, .int b1), (2, .int b2), (3, .int b3)] [] h (some (.int r)) h') (b0 : Nat) (b1 : Int32) (b2 : Int32) (b3 : Int32) (s0 : Int32) (h : mH) (r : Int32) (h' : mH) (hf : f_Q_together_53 rec26 b0 b1 b2 b3 s0 h = some (r, h')) : G sc y_Q_together prog_1_method_24_code 5 (some .int) 3 68 53 [(0, .ref b0), (1, .int b1), (2, .int b2), (3, .int b3)] [.int s0] h (some (.int r)) h' := by
  unfold f_Q_together_53 at hf
  refine g_istore (pc := 53) [(4, .int s0), (0, .ref b0), (1, .int b1), (2, .int b2), (3, .int b3)] d_Q_together_53 (Nat.le_of_ble_eq_true rfl) rfl ?_
  refine g_iload (pc := 55) 0 d_Q_together_55 rfl ?_
  refine g_ifeq (pc := 57) 87 d_Q_together_57 (by decide) (fun c45 => ?_) (fun c45 => ?_)
  · replace hf := (if_pos c45).symm.trans hf
    refine g_lv [1, 2, 3, 4] rfl ?_
    exact t_Q_together_87 rec26 hrec26 _ _ _ _ _ _ _  hf
  · replace hf := (if_neg c45).symm.trans hf
    refine g_iload_n (pc := 60) 4 d_Q_together_60 rfl rfl ?_
    refine g_aload_n (pc := 61) 1 d_Q_together_61 rfl rfl ?_
    obtain ⟨x29, e30, hf⟩ := bd1_e hf
    refine g_get (pc := 62) (ci := 0) (kk := 1) d_Q_together_62 rfl in_Q (by decide) wd_297 (gR_spec e30) ?_
    obtain ⟨x31, e32, hf⟩ := bd1_e hf
    refine g_get (pc := 65) (ci := 4) (kk := 4) d_Q_together_65 rfl in_Realm (by decide) wd_109 (gI_spec e32) ?_
    obtain ⟨x35, h33, e34, hf⟩ := bd2_e hf
    refine g_callS (pc := 68) [.int b3, .int x31] (site_of si_Q_isPart (by decide) (by decide)) wd_719 wd_485 d_Q_together_68 (Nat.le_of_ble_eq_true rfl) (fun z => absurd z (by decide)) (fun z => absurd z (by decide)) (fun z => absurd z (by decide)) (c_Q_isPart e34) rfl ?_
    refine g_st [.int x35] rfl ?_
    refine g_ifeq (pc := 71) 87 d_Q_together_71 (by decide) (fun c44 => ?_) (fun c44 => ?_)
    · replace hf := (if_pos c44).symm.trans hf
      refine g_lv [1, 2, 3, 4] rfl ?_
      exact t_Q_together_87 rec26 hrec26 _ _ _ _ _ _ _  hf
    · replace hf := (if_neg c44).symm.trans hf
      refine g_aload_n (pc := 74) 1 d_Q_together_74 rfl rfl ?_
      obtain ⟨x36, e37, hf⟩ := bd1_e hf
      refine g_get (pc := 75) (ci := 0) (kk := 6) d_Q_together_75 rfl in_Q (by decide) wd_302 (gR_spec e37) ?_
      refine g_iload_n (pc := 78) 4 d_Q_together_78 rfl rfl ?_
      obtain ⟨u39, e38, hf⟩ := bd1_e hf
      obtain ⟨x42, h40, e41, hf⟩ := bd2_e hf
      refine g_callV (pc := 79) (ci := 2) [.int b3] (site_of si_Planner_canMeet (by decide) (by decide)) wd_701 wd_702 wd_703 d_Q_together_79 rfl e38 (Nat.le_of_ble_eq_true rfl) (fun z => absurd z (by decide)) (fun z => absurd z (by decide)) (fun z => absurd z (by decide)) (c_Planner_canMeet e41) rfl ?_
      refine g_st [.int x42] rfl ?_
      refine g_ifeq (pc := 82) 87 d_Q_together_82 (by decide) (fun c43 => ?_) (fun c43 => ?_)
      · replace hf := (if_pos c43).symm.trans hf
        refine g_lv [1, 2, 3, 4] rfl ?_
        exact t_Q_together_87 rec26 hrec26 _ _ _ _ _ _ _  hf
      · replace hf := (if_neg c43).symm.trans hf
        refine g_iload_n (pc := 85) 4 d_Q_together_85 rfl rfl ?_
        refine g_istore_n (pc := 86) [(2, .int b3), (4, .int s0), (0, .ref b0), (1, .int b1), (3, .int b3)] d_Q_together_86 rfl (Nat.le_of_ble_eq_true rfl) rfl ?_
        refine g_lv [2, 3, 0, 4] rfl ?_
        exact t_Q_together_87 rec26 hrec26 _ _ _ _ _ _ _  hf
def f_Q_together_26b (rec26 : Nat → Int32 → Int32 → Int32 → mH → Option (Int32 × mH)) (b0 : Nat) (b1 : Int32) (b2 : Int32) (b3 : Int32) (h : mH) : Option (Int32 × mH) :=
  bd1 (gR h b0 0 1) fun x13 =>
  bd1 (gI h x13 4 4) fun x15 =>
  if x15 < b3 then
    if b1 = 0 then
      bd2 (f_Integer_bitCount b2 h) fun x19 h17 =>
      some (x19, h17)
    else
      some (b2, h)
  else
    bd2 (f_Integer_bitCount b3 h) fun x23 h21 =>
    bd2 (f_Integer_bitCount b2 h21) fun x26 h24 =>
    if x23 ≤ x26 then
      f_Q_together_53 rec26 b0 b1 b2 b3 (0 : Int32) h24
    else
      f_Q_together_53 rec26 b0 b1 b2 b3 (1 : Int32) h24
set_option maxRecDepth 20000 in
theorem t_Q_together_26b {sc : Nat × (Nat → Int32)} (rec26 : Nat → Int32 → Int32 → Int32 → mH → Option (Int32 × mH)) (hrec26 : ∀ (b0 : Nat) (b1 : Int32) (b2 : Int32) (b3 : Int32) (h : mH) (r : Int32) (h' : mH), rec26 b0 b1 b2 b3 h = some (r, h') → G sc y_Q_together prog_1_method_24_code 5 (some .int) 3 68 26 [(0, .ref b0), (1, .int b1), (2, .int b2), (3, .int b3)] [] h (some (.int r)) h') (b0 : Nat) (b1 : Int32) (b2 : Int32) (b3 : Int32) (h : mH) (r : Int32) (h' : mH) (hf : f_Q_together_26b rec26 b0 b1 b2 b3 h = some (r, h')) : G sc y_Q_together prog_1_method_24_code 5 (some .int) 3 68 26 [(0, .ref b0), (1, .int b1), (2, .int b2), (3, .int b3)] [] h (some (.int r)) h' := by
  unfold f_Q_together_26b at hf
  refine g_iload_n (pc := 26) 3 d_Q_together_26 rfl rfl ?_
  refine g_aload_n (pc := 27) 0 d_Q_together_27 rfl rfl ?_
  obtain ⟨x13, e14, hf⟩ := bd1_e hf
  refine g_get (pc := 28) (ci := 0) (kk := 1) d_Q_together_28 rfl in_Q (by decide) wd_297 (gR_spec e14) ?_
  obtain ⟨x15, e16, hf⟩ := bd1_e hf
  refine g_get (pc := 31) (ci := 4) (kk := 4) d_Q_together_31 rfl in_Realm (by decide) wd_109 (gI_spec e16) ?_
  refine g_icmpgt (pc := 34) 93 d_Q_together_34 (by decide) (fun c28 => ?_) (fun c28 => ?_)
  · replace hf := (if_pos c28).symm.trans hf
    refine g_iload_n (pc := 93) 1 d_Q_together_93 rfl rfl ?_
    refine g_ifne (pc := 94) 104 d_Q_together_94 (by decide) (fun c20 => ?_) (fun c20 => ?_)
    · replace hf := (if_neg c20).symm.trans hf
      refine g_iload_n (pc := 104) 2 d_Q_together_104 rfl rfl ?_
      obtain ⟨rfl, rfl⟩ := ret2 hf
      exact g_iret (pc := 105) rfl d_Q_together_105
    · replace hf := (if_pos c20).symm.trans hf
      refine g_iload_n (pc := 97) 2 d_Q_together_97 rfl rfl ?_
      obtain ⟨x19, h17, e18, hf⟩ := bd2_e hf
      refine g_callS (pc := 98) [.int b2] (site_of si_Integer_bitCount (by decide) (by decide)) wd_615 wd_616 d_Q_together_98 (Nat.le_of_ble_eq_true rfl) (fun z => absurd z (by decide)) (fun z => absurd z (by decide)) (fun z => absurd z (by decide)) (c_Integer_bitCount e18) rfl ?_
      refine g_st [.int x19] rfl ?_
      refine g_goto (pc := 101) 105 d_Q_together_101 (by decide) ?_
      obtain ⟨rfl, rfl⟩ := ret2 hf
      exact g_iret (pc := 105) rfl d_Q_together_105
  · replace hf := (if_neg c28).symm.trans hf
    refine g_iload_n (pc := 37) 3 d_Q_together_37 rfl rfl ?_
    obtain ⟨x23, h21, e22, hf⟩ := bd2_e hf
    refine g_callS (pc := 38) [.int b3] (site_of si_Integer_bitCount (by decide) (by decide)) wd_615 wd_616 d_Q_together_38 (Nat.le_of_ble_eq_true rfl) (fun z => absurd z (by decide)) (fun z => absurd z (by decide)) (fun z => absurd z (by decide)) (c_Integer_bitCount e22) rfl ?_
    refine g_st [.int x23] rfl ?_
    refine g_iload_n (pc := 41) 2 d_Q_together_41 rfl rfl ?_
    obtain ⟨x26, h24, e25, hf⟩ := bd2_e hf
    refine g_callS (pc := 42) [.int b2] (site_of si_Integer_bitCount (by decide) (by decide)) wd_615 wd_616 d_Q_together_42 (Nat.le_of_ble_eq_true rfl) (fun z => absurd z (by decide)) (fun z => absurd z (by decide)) (fun z => absurd z (by decide)) (c_Integer_bitCount e25) rfl ?_
    refine g_st [.int x26, .int x23] rfl ?_
    refine g_icmple (pc := 45) 52 d_Q_together_45 (by decide) (fun c27 => ?_) (fun c27 => ?_)
    · replace hf := (if_pos c27).symm.trans hf
      refine g_iconst (pc := 52) (0 : Int32) d_Q_together_52 (by decide) ?_
      refine g_lv [0, 1, 2, 3] rfl ?_
      exact t_Q_together_53 rec26 hrec26 _ _ _ _ _ _ _ _  hf
    · replace hf := (if_neg c27).symm.trans hf
      refine g_iconst (pc := 48) (1 : Int32) d_Q_together_48 (by decide) ?_
      refine g_goto (pc := 49) 53 d_Q_together_49 (by decide) ?_
      refine g_lv [0, 1, 2, 3] rfl ?_
      exact t_Q_together_53 rec26 hrec26 _ _ _ _ _ _ _ _  hf
def f_Q_together_26  : Nat → Nat → Int32 → Int32 → Int32 → mH → Option (Int32 × mH)
  | 0 => fun _ _ _ _ _ => none
  | n + 1 => f_Q_together_26b  (f_Q_together_26  n)
theorem t_Q_together_26 {sc : Nat × (Nat → Int32)}  : ∀ (n : Nat) (b0 : Nat) (b1 : Int32) (b2 : Int32) (b3 : Int32) (h : mH) (r : Int32) (h' : mH) (hf : f_Q_together_26  n b0 b1 b2 b3 h = some (r, h')), G sc y_Q_together prog_1_method_24_code 5 (some .int) 3 68 26 [(0, .ref b0), (1, .int b1), (2, .int b2), (3, .int b3)] [] h (some (.int r)) h'
  | 0, _, _, _, _, _, _, _, hf => by cases hf
  | n + 1, _, _, _, _, _, _, _, hf => t_Q_together_26b  (f_Q_together_26  n) (t_Q_together_26  n) _ _ _ _ _ _ _ hf
def f_Q_together_0  (a0 : Nat) (a1 : Int32) (h : mH) : Option (Int32 × mH) :=
  bd2 (f_Q_isWithin a1 (0 : Int32) (1 : Int32) h) fun x3 h1 =>
  if x3 = 0 then
    some (((-1) : Int32), h1)
  else
    bd1 (gR h1 a0 0 6) fun x4 =>
    bd1 (gR h1 a0 0 1) fun x6 =>
    bd1 (kC h1 x4 2) fun _ =>
    bd1 (f_Planner_load x4 x6 h1) fun h10 =>
    f_Q_together_26  FU a0 a1 (0 : Int32) (0 : Int32) h10
set_option maxRecDepth 20000 in
theorem t_Q_together_0 {sc : Nat × (Nat → Int32)}  (a0 : Nat) (a1 : Int32) (h : mH) (r : Int32) (h' : mH) (hf : f_Q_together_0  a0 a1 h = some (r, h')) : G sc y_Q_together prog_1_method_24_code 5 (some .int) 3 68 0 [(0, .ref a0), (1, .int a1)] [] h (some (.int r)) h' := by
  unfold f_Q_together_0 at hf
  refine g_iload_n (pc := 0) 1 d_Q_together_0 rfl rfl ?_
  refine g_iconst (pc := 1) (0 : Int32) d_Q_together_1 (by decide) ?_
  refine g_iconst (pc := 2) (1 : Int32) d_Q_together_2 (by decide) ?_
  obtain ⟨x3, h1, e2, hf⟩ := bd2_e hf
  refine g_callS (pc := 3) [.int a1, .int (0 : Int32), .int (1 : Int32)] (site_of si_Q_isWithin (by decide) (by decide)) wd_331 wd_332 d_Q_together_3 (Nat.le_of_ble_eq_true rfl) (fun z => absurd z (by decide)) (fun z => absurd z (by decide)) (fun z => absurd z (by decide)) (c_Q_isWithin e2) rfl ?_
  refine g_st [.int x3] rfl ?_
  refine g_ifne (pc := 6) 11 d_Q_together_6 (by decide) (fun c12 => ?_) (fun c12 => ?_)
  · replace hf := (if_neg c12).symm.trans hf
    refine g_aload_n (pc := 11) 0 d_Q_together_11 rfl rfl ?_
    obtain ⟨x4, e5, hf⟩ := bd1_e hf
    refine g_get (pc := 12) (ci := 0) (kk := 6) d_Q_together_12 rfl in_Q (by decide) wd_302 (gR_spec e5) ?_
    refine g_aload_n (pc := 15) 0 d_Q_together_15 rfl rfl ?_
    obtain ⟨x6, e7, hf⟩ := bd1_e hf
    refine g_get (pc := 16) (ci := 0) (kk := 1) d_Q_together_16 rfl in_Q (by decide) wd_297 (gR_spec e7) ?_
    obtain ⟨u9, e8, hf⟩ := bd1_e hf
    obtain ⟨h10, e11, hf⟩ := bd1_e hf
    refine g_callV (pc := 19) (ci := 2) [.ref x6] (site_of si_Planner_load (by decide) (by decide)) wd_661 wd_662 wd_663 d_Q_together_19 rfl e8 (Nat.le_of_ble_eq_true rfl) (fun z => absurd z (by decide)) (fun z => absurd z (by decide)) (fun z => absurd z (by decide)) (c_Planner_load e11) rfl ?_
    refine g_st [] rfl ?_
    refine g_iconst (pc := 22) (0 : Int32) d_Q_together_22 (by decide) ?_
    refine g_istore_n (pc := 23) [(2, .int (0 : Int32)), (0, .ref a0), (1, .int a1)] d_Q_together_23 rfl (Nat.le_of_ble_eq_true rfl) rfl ?_
    refine g_iconst (pc := 24) (0 : Int32) d_Q_together_24 (by decide) ?_
    refine g_istore_n (pc := 25) [(3, .int (0 : Int32)), (2, .int (0 : Int32)), (0, .ref a0), (1, .int a1)] d_Q_together_25 rfl (Nat.le_of_ble_eq_true rfl) rfl ?_
    refine g_lv [2, 3, 1, 0] rfl ?_
    exact t_Q_together_26  FU _ _ _ _ _ _ _  hf
  · replace hf := (if_pos c12).symm.trans hf
    refine g_iconst (pc := 9) ((-1) : Int32) d_Q_together_9 (by decide) ?_
    obtain ⟨rfl, rfl⟩ := ret2 hf
    exact g_iret (pc := 10) rfl d_Q_together_10
def f_Q_together (a0 : Nat) (a1 : Int32) (h : mH) : Option (Int32 × mH) := f_Q_together_0 a0 a1 h
theorem c_Q_together {sc : Nat × (Nat → Int32)} {a0 : Nat} {a1 : Int32} {h : mH} {r : Int32} {h' : mH} (hf : f_Q_together a0 a1 h = some (r, h')) : MM sc y_Q_together prog_1_method_24_code 5 (some .int) 3 68 [.ref a0, .int a1] h (some (.int r)) h' :=
  mm_of_G (by decide) (Nat.le_of_ble_eq_true rfl) (t_Q_together_0 _ _ _ _ _ hf)
/-! Realm ableWithout (II)I -/
set_option maxRecDepth 100000 in
theorem dd_Realm_ableWithout_0 : (decode prog_5_method_17_code 0 = .ok (.iconst 0, 1)) ∧ (decode prog_5_method_17_code 1 = .ok (.istore_n 3, 1)) ∧ (decode prog_5_method_17_code 2 = .ok (.iconst 0, 1)) ∧ (decode prog_5_method_17_code 3 = .ok (.istore 4, 2)) ∧ (decode prog_5_method_17_code 5 = .ok (.iload 4, 2)) ∧ (decode prog_5_method_17_code 7 = .ok (.aload_n 0, 1)) ∧ (decode prog_5_method_17_code 8 = .ok (.getfield 59, 3)) ∧ (decode prog_5_method_17_code 11 = .ok (.if_icmp .ge 32, 3)) ∧ (decode prog_5_method_17_code 14 = .ok (.iload_n 3, 1)) ∧ (decode prog_5_method_17_code 15 = .ok (.iload_n 1, 1)) ∧ (decode prog_5_method_17_code 16 = .ok (.iload 4, 2)) ∧ (decode prog_5_method_17_code 18 = .ok (.invokestatic 104, 3)) ∧ (decode prog_5_method_17_code 21 = .ok (.ifCond .eq 7, 3)) ∧ (decode prog_5_method_17_code 24 = .ok (.iconst 0, 1)) ∧ (decode prog_5_method_17_code 25 = .ok (.goto 10, 3)) ∧ (decode prog_5_method_17_code 28 = .ok (.aload_n 0, 1)) ∧ (decode prog_5_method_17_code 29 = .ok (.iload 4, 2)) ∧ (decode prog_5_method_17_code 31 = .ok (.iload_n 2, 1)) ∧ (decode prog_5_method_17_code 32 = .ok (.invokevirtual 129, 3)) ∧ (decode prog_5_method_17_code 35 = .ok (.iadd, 1)) ∧ (decode prog_5_method_17_code 36 = .ok (.istore_n 3, 1)) ∧ (decode prog_5_method_17_code 37 = .ok (.iinc 4 1, 3)) ∧ (decode prog_5_method_17_code 40 = .ok (.goto (-35), 3)) ∧ (decode prog_5_method_17_code 43 = .ok (.iload_n 3, 1)) := by
  have h : List.drop 0 prog_5_method_17_code.data.toList = 0x03 :: _ := rfl
  refine ⟨zq_k_n 3 h rfl (zq_o_3 _), ?_⟩
  replace h := zq_nx1 (q := 1) h rfl
  refine ⟨zq_k_n 62 h rfl (zq_o_62 _), ?_⟩
  replace h := zq_nx1 (q := 2) h rfl
  refine ⟨zq_k_n 3 h rfl (zq_o_3 _), ?_⟩
  replace h := zq_nx1 (q := 3) h rfl
  refine ⟨zq_k_u1 54 (fun z => .istore z) 4 h rfl (zq_o_54 _) (by decide +kernel), ?_⟩
  replace h := zq_nx2 (q := 5) h rfl
  refine ⟨zq_k_u1 21 (fun z => .iload z) 4 h rfl (zq_o_21 _) (by decide +kernel), ?_⟩
  replace h := zq_nx2 (q := 7) h rfl
  refine ⟨zq_k_n 42 h rfl (zq_o_42 _), ?_⟩
  replace h := zq_nx1 (q := 8) h rfl
  refine ⟨zq_k_u2 180 (fun z => .getfield z) 59 h rfl (zq_o_180 _) (by decide +kernel), ?_⟩
  replace h := zq_nx3 (q := 11) h rfl
  refine ⟨zq_k_s2 162 (fun z => .if_icmp .ge z) 32 h rfl (zq_o_162 _) (by decide +kernel), ?_⟩
  replace h := zq_nx3 (q := 14) h rfl
  refine ⟨zq_k_n 29 h rfl (zq_o_29 _), ?_⟩
  replace h := zq_nx1 (q := 15) h rfl
  refine ⟨zq_k_n 27 h rfl (zq_o_27 _), ?_⟩
  replace h := zq_nx1 (q := 16) h rfl
  refine ⟨zq_k_u1 21 (fun z => .iload z) 4 h rfl (zq_o_21 _) (by decide +kernel), ?_⟩
  replace h := zq_nx2 (q := 18) h rfl
  refine ⟨zq_k_u2 184 (fun z => .invokestatic z) 104 h rfl (zq_o_184 _) (by decide +kernel), ?_⟩
  replace h := zq_nx3 (q := 21) h rfl
  refine ⟨zq_k_s2 153 (fun z => .ifCond .eq z) 7 h rfl (zq_o_153 _) (by decide +kernel), ?_⟩
  replace h := zq_nx3 (q := 24) h rfl
  refine ⟨zq_k_n 3 h rfl (zq_o_3 _), ?_⟩
  replace h := zq_nx1 (q := 25) h rfl
  refine ⟨zq_k_s2 167 (fun z => .goto z) 10 h rfl (zq_o_167 _) (by decide +kernel), ?_⟩
  replace h := zq_nx3 (q := 28) h rfl
  refine ⟨zq_k_n 42 h rfl (zq_o_42 _), ?_⟩
  replace h := zq_nx1 (q := 29) h rfl
  refine ⟨zq_k_u1 21 (fun z => .iload z) 4 h rfl (zq_o_21 _) (by decide +kernel), ?_⟩
  replace h := zq_nx2 (q := 31) h rfl
  refine ⟨zq_k_n 28 h rfl (zq_o_28 _), ?_⟩
  replace h := zq_nx1 (q := 32) h rfl
  refine ⟨zq_k_u2 182 (fun z => .invokevirtual z) 129 h rfl (zq_o_182 _) (by decide +kernel), ?_⟩
  replace h := zq_nx3 (q := 35) h rfl
  refine ⟨zq_k_n 96 h rfl (zq_o_96 _), ?_⟩
  replace h := zq_nx1 (q := 36) h rfl
  refine ⟨zq_k_n 62 h rfl (zq_o_62 _), ?_⟩
  replace h := zq_nx1 (q := 37) h rfl
  refine ⟨zq_k_iinc 4 1 h rfl (zq_o_132 _) (by decide +kernel) (by decide +kernel), ?_⟩
  replace h := zq_nx3 (q := 40) h rfl
  refine ⟨zq_k_s2 167 (fun z => .goto z) (-35) h rfl (zq_o_167 _) (by decide +kernel), ?_⟩
  replace h := zq_nx3 (q := 43) h rfl
  exact zq_k_n 29 h rfl (zq_o_29 _)
theorem d_Realm_ableWithout_0 : decode prog_5_method_17_code 0 = .ok (.iconst 0, 1) := dd_Realm_ableWithout_0.1
theorem d_Realm_ableWithout_1 : decode prog_5_method_17_code 1 = .ok (.istore_n 3, 1) := dd_Realm_ableWithout_0.2.1
theorem d_Realm_ableWithout_2 : decode prog_5_method_17_code 2 = .ok (.iconst 0, 1) := dd_Realm_ableWithout_0.2.2.1
theorem d_Realm_ableWithout_3 : decode prog_5_method_17_code 3 = .ok (.istore 4, 2) := dd_Realm_ableWithout_0.2.2.2.1
theorem d_Realm_ableWithout_5 : decode prog_5_method_17_code 5 = .ok (.iload 4, 2) := dd_Realm_ableWithout_0.2.2.2.2.1
theorem d_Realm_ableWithout_7 : decode prog_5_method_17_code 7 = .ok (.aload_n 0, 1) := dd_Realm_ableWithout_0.2.2.2.2.2.1
theorem d_Realm_ableWithout_8 : decode prog_5_method_17_code 8 = .ok (.getfield 59, 3) := dd_Realm_ableWithout_0.2.2.2.2.2.2.1
theorem d_Realm_ableWithout_11 : decode prog_5_method_17_code 11 = .ok (.if_icmp .ge 32, 3) := dd_Realm_ableWithout_0.2.2.2.2.2.2.2.1
theorem d_Realm_ableWithout_14 : decode prog_5_method_17_code 14 = .ok (.iload_n 3, 1) := dd_Realm_ableWithout_0.2.2.2.2.2.2.2.2.1
theorem d_Realm_ableWithout_15 : decode prog_5_method_17_code 15 = .ok (.iload_n 1, 1) := dd_Realm_ableWithout_0.2.2.2.2.2.2.2.2.2.1
theorem d_Realm_ableWithout_16 : decode prog_5_method_17_code 16 = .ok (.iload 4, 2) := dd_Realm_ableWithout_0.2.2.2.2.2.2.2.2.2.2.1
theorem d_Realm_ableWithout_18 : decode prog_5_method_17_code 18 = .ok (.invokestatic 104, 3) := dd_Realm_ableWithout_0.2.2.2.2.2.2.2.2.2.2.2.1
theorem d_Realm_ableWithout_21 : decode prog_5_method_17_code 21 = .ok (.ifCond .eq 7, 3) := dd_Realm_ableWithout_0.2.2.2.2.2.2.2.2.2.2.2.2.1
theorem d_Realm_ableWithout_24 : decode prog_5_method_17_code 24 = .ok (.iconst 0, 1) := dd_Realm_ableWithout_0.2.2.2.2.2.2.2.2.2.2.2.2.2.1
theorem d_Realm_ableWithout_25 : decode prog_5_method_17_code 25 = .ok (.goto 10, 3) := dd_Realm_ableWithout_0.2.2.2.2.2.2.2.2.2.2.2.2.2.2.1
theorem d_Realm_ableWithout_28 : decode prog_5_method_17_code 28 = .ok (.aload_n 0, 1) := dd_Realm_ableWithout_0.2.2.2.2.2.2.2.2.2.2.2.2.2.2.2.1
theorem d_Realm_ableWithout_29 : decode prog_5_method_17_code 29 = .ok (.iload 4, 2) := dd_Realm_ableWithout_0.2.2.2.2.2.2.2.2.2.2.2.2.2.2.2.2.1
theorem d_Realm_ableWithout_31 : decode prog_5_method_17_code 31 = .ok (.iload_n 2, 1) := dd_Realm_ableWithout_0.2.2.2.2.2.2.2.2.2.2.2.2.2.2.2.2.2.1
theorem d_Realm_ableWithout_32 : decode prog_5_method_17_code 32 = .ok (.invokevirtual 129, 3) := dd_Realm_ableWithout_0.2.2.2.2.2.2.2.2.2.2.2.2.2.2.2.2.2.2.1
theorem d_Realm_ableWithout_35 : decode prog_5_method_17_code 35 = .ok (.iadd, 1) := dd_Realm_ableWithout_0.2.2.2.2.2.2.2.2.2.2.2.2.2.2.2.2.2.2.2.1
theorem d_Realm_ableWithout_36 : decode prog_5_method_17_code 36 = .ok (.istore_n 3, 1) := dd_Realm_ableWithout_0.2.2.2.2.2.2.2.2.2.2.2.2.2.2.2.2.2.2.2.2.1
theorem d_Realm_ableWithout_37 : decode prog_5_method_17_code 37 = .ok (.iinc 4 1, 3) := dd_Realm_ableWithout_0.2.2.2.2.2.2.2.2.2.2.2.2.2.2.2.2.2.2.2.2.2.1
theorem d_Realm_ableWithout_40 : decode prog_5_method_17_code 40 = .ok (.goto (-35), 3) := dd_Realm_ableWithout_0.2.2.2.2.2.2.2.2.2.2.2.2.2.2.2.2.2.2.2.2.2.2.1
theorem d_Realm_ableWithout_43 : decode prog_5_method_17_code 43 = .ok (.iload_n 3, 1) := dd_Realm_ableWithout_0.2.2.2.2.2.2.2.2.2.2.2.2.2.2.2.2.2.2.2.2.2.2.2
set_option maxRecDepth 100000 in
theorem dd_Realm_ableWithout_44 : decode prog_5_method_17_code 44 = .ok (.ireturn, 1) := by
  have h : List.drop 44 prog_5_method_17_code.data.toList = 0xac :: _ := rfl
  exact zq_k_n 172 h rfl (zq_o_172 _)
theorem d_Realm_ableWithout_44 : decode prog_5_method_17_code 44 = .ok (.ireturn, 1) := dd_Realm_ableWithout_44
def f_Realm_ableWithout_35 (rec5 : Nat → Int32 → Int32 → Int32 → Int32 → mH → Option (Int32 × mH)) (b0 : Nat) (b1 : Int32) (b2 : Int32) (b4 : Int32) (s0 : Int32) (s1 : Int32) (h : mH) : Option (Int32 × mH) :=
  rec5 b0 b1 b2 (s0 + s1) (b4 + (1 : Int32)) h
set_option maxRecDepth 20000 in
theorem t_Realm_ableWithout_35 {sc : Nat × (Nat → Int32)} (rec5 : Nat → Int32 → Int32 → Int32 → Int32 → mH → Option (Int32 × mH)) (hrec5 : ∀ (b0 : Nat) (b1 : Int32) (b2 : Int32) (b3 : Int32) (b4 : Int32) (h : mH) (r : Int32) (h' : mH), rec5 b0 b1 b2 b3 b4 h = some (r, h') → G sc y_Realm_ableWithout prog_5_method_17_code 5 (some .int) 3 67 5 [(0, .ref b0), (1, .int b1), (2, .int b2), (3, .int b3), (4, .int b4)] [] h (some (.int r)) h') (b0 : Nat) (b1 : Int32) (b2 : Int32) (b4 : Int32) (s0 : Int32) (s1 : Int32) (h : mH) (r : Int32) (h' : mH) (hf : f_Realm_ableWithout_35 rec5 b0 b1 b2 b4 s0 s1 h = some (r, h')) : G sc y_Realm_ableWithout prog_5_method_17_code 5 (some .int) 3 67 35 [(0, .ref b0), (1, .int b1), (2, .int b2), (4, .int b4)] [.int s1, .int s0] h (some (.int r)) h' := by
  unfold f_Realm_ableWithout_35 at hf
  refine g_iadd (pc := 35) d_Realm_ableWithout_35 ?_
  refine g_istore_n (pc := 36) [(3, .int (s0 + s1)), (0, .ref b0), (1, .int b1), (2, .int b2), (4, .int b4)] d_Realm_ableWithout_36 rfl (Nat.le_of_ble_eq_true rfl) rfl ?_
  refine g_iinc (pc := 37) 4 (b4 + (1 : Int32)) [(4, .int (b4 + (1 : Int32))), (3, .int (s0 + s1)), (0, .ref b0), (1, .int b1), (2, .int b2)] d_Realm_ableWithout_37 rfl rfl (Nat.le_of_ble_eq_true rfl) rfl ?_
  refine g_goto (pc := 40) 5 d_Realm_ableWithout_40 (by decide) ?_
  refine g_lv [2, 3, 4, 1, 0] rfl ?_
  exact hrec5 _ _ _ _ _ _ _ _  hf
def f_Realm_ableWithout_5b (rec5 : Nat → Int32 → Int32 → Int32 → Int32 → mH → Option (Int32 × mH)) (b0 : Nat) (b1 : Int32) (b2 : Int32) (b3 : Int32) (b4 : Int32) (h : mH) : Option (Int32 × mH) :=
  bd1 (gI h b0 4 1) fun x1 =>
  if x1 ≤ b4 then
    some (b3, h)
  else
    bd2 (f_Q_hasBit b1 b4 h) fun x5 h3 =>
    if x5 = 0 then
      bd1 (kC h3 b0 4) fun _ =>
      bd2 (f_Realm_ableAlone b0 b4 b2 h3) fun x10 h8 =>
      f_Realm_ableWithout_35 rec5 b0 b1 b2 b4 b3 x10 h8
    else
      f_Realm_ableWithout_35 rec5 b0 b1 b2 b4 b3 (0 : Int32) h3
set_option maxRecDepth 20000 in
theorem t_Realm_ableWithout_5b {sc : Nat × (Nat → Int32)} (rec5 : Nat → Int32 → Int32 → Int32 → Int32 → mH → Option (Int32 × mH)) (hrec5 : ∀ (b0 : Nat) (b1 : Int32) (b2 : Int32) (b3 : Int32) (b4 : Int32) (h : mH) (r : Int32) (h' : mH), rec5 b0 b1 b2 b3 b4 h = some (r, h') → G sc y_Realm_ableWithout prog_5_method_17_code 5 (some .int) 3 67 5 [(0, .ref b0), (1, .int b1), (2, .int b2), (3, .int b3), (4, .int b4)] [] h (some (.int r)) h') (b0 : Nat) (b1 : Int32) (b2 : Int32) (b3 : Int32) (b4 : Int32) (h : mH) (r : Int32) (h' : mH) (hf : f_Realm_ableWithout_5b rec5 b0 b1 b2 b3 b4 h = some (r, h')) : G sc y_Realm_ableWithout prog_5_method_17_code 5 (some .int) 3 67 5 [(0, .ref b0), (1, .int b1), (2, .int b2), (3, .int b3), (4, .int b4)] [] h (some (.int r)) h' := by
  unfold f_Realm_ableWithout_5b at hf
  refine g_iload (pc := 5) 4 d_Realm_ableWithout_5 rfl ?_
  refine g_aload_n (pc := 7) 0 d_Realm_ableWithout_7 rfl rfl ?_
  obtain ⟨x1, e2, hf⟩ := bd1_e hf
  refine g_get (pc := 8) (ci := 4) (kk := 1) d_Realm_ableWithout_8 rfl in_Realm (by decide) wd_98 (gI_spec e2) ?_
  refine g_icmpge (pc := 11) 43 d_Realm_ableWithout_11 (by decide) (fun c12 => ?_) (fun c12 => ?_)
  · replace hf := (if_pos c12).symm.trans hf
    refine g_iload_n (pc := 43) 3 d_Realm_ableWithout_43 rfl rfl ?_
    obtain ⟨rfl, rfl⟩ := ret2 hf
    exact g_iret (pc := 44) rfl d_Realm_ableWithout_44
  · replace hf := (if_neg c12).symm.trans hf
    refine g_iload_n (pc := 14) 3 d_Realm_ableWithout_14 rfl rfl ?_
    refine g_iload_n (pc := 15) 1 d_Realm_ableWithout_15 rfl rfl ?_
    refine g_iload (pc := 16) 4 d_Realm_ableWithout_16 rfl ?_
    obtain ⟨x5, h3, e4, hf⟩ := bd2_e hf
    refine g_callSN (pc := 18) "QuotaLaws" [.int b1, .int b4] (site_of si_Q_hasBit (by decide) (by decide)) wd_524 wd_469 d_Realm_ableWithout_18 (Nat.le_of_ble_eq_true rfl) (fun z => absurd z (by decide)) (fun z => absurd z (by decide)) (fun z => absurd z (by decide)) (c_Q_hasBit e4) rfl ?_
    refine g_st [.int x5, .int b3] rfl ?_
    refine g_ifeq (pc := 21) 28 d_Realm_ableWithout_21 (by decide) (fun c11 => ?_) (fun c11 => ?_)
    · replace hf := (if_pos c11).symm.trans hf
      refine g_aload_n (pc := 28) 0 d_Realm_ableWithout_28 rfl rfl ?_
      refine g_iload (pc := 29) 4 d_Realm_ableWithout_29 rfl ?_
      refine g_iload_n (pc := 31) 2 d_Realm_ableWithout_31 rfl rfl ?_
      obtain ⟨u7, e6, hf⟩ := bd1_e hf
      obtain ⟨x10, h8, e9, hf⟩ := bd2_e hf
      refine g_callV (pc := 32) (ci := 4) [.int b4, .int b2] (site_of si_Realm_ableAlone (by decide) (by decide)) wd_550 wd_551 wd_552 d_Realm_ableWithout_32 rfl e6 (Nat.le_of_ble_eq_true rfl) (fun z => absurd z (by decide)) (fun z => absurd z (by decide)) (fun z => absurd z (by decide)) (c_Realm_ableAlone e9) rfl ?_
      refine g_st [.int x10, .int b3] rfl ?_
      refine g_lv [0, 1, 2, 4] rfl ?_
      exact t_Realm_ableWithout_35 rec5 hrec5 _ _ _ _ _ _ _ _ _  hf
    · replace hf := (if_neg c11).symm.trans hf
      refine g_iconst (pc := 24) (0 : Int32) d_Realm_ableWithout_24 (by decide) ?_
      refine g_goto (pc := 25) 35 d_Realm_ableWithout_25 (by decide) ?_
      refine g_lv [0, 1, 2, 4] rfl ?_
      exact t_Realm_ableWithout_35 rec5 hrec5 _ _ _ _ _ _ _ _ _  hf
def f_Realm_ableWithout_5  : Nat → Nat → Int32 → Int32 → Int32 → Int32 → mH → Option (Int32 × mH)
  | 0 => fun _ _ _ _ _ _ => none
  | n + 1 => f_Realm_ableWithout_5b  (f_Realm_ableWithout_5  n)
theorem t_Realm_ableWithout_5 {sc : Nat × (Nat → Int32)}  : ∀ (n : Nat) (b0 : Nat) (b1 : Int32) (b2 : Int32) (b3 : Int32) (b4 : Int32) (h : mH) (r : Int32) (h' : mH) (hf : f_Realm_ableWithout_5  n b0 b1 b2 b3 b4 h = some (r, h')), G sc y_Realm_ableWithout prog_5_method_17_code 5 (some .int) 3 67 5 [(0, .ref b0), (1, .int b1), (2, .int b2), (3, .int b3), (4, .int b4)] [] h (some (.int r)) h'
  | 0, _, _, _, _, _, _, _, _, hf => by cases hf
  | n + 1, _, _, _, _, _, _, _, _, hf => t_Realm_ableWithout_5b  (f_Realm_ableWithout_5  n) (t_Realm_ableWithout_5  n) _ _ _ _ _ _ _ _ hf
def f_Realm_ableWithout_0  (a0 : Nat) (a1 : Int32) (a2 : Int32) (h : mH) : Option (Int32 × mH) :=
  f_Realm_ableWithout_5  FU a0 a1 a2 (0 : Int32) (0 : Int32) h
set_option maxRecDepth 20000 in
theorem t_Realm_ableWithout_0 {sc : Nat × (Nat → Int32)}  (a0 : Nat) (a1 : Int32) (a2 : Int32) (h : mH) (r : Int32) (h' : mH) (hf : f_Realm_ableWithout_0  a0 a1 a2 h = some (r, h')) : G sc y_Realm_ableWithout prog_5_method_17_code 5 (some .int) 3 67 0 [(0, .ref a0), (1, .int a1), (2, .int a2)] [] h (some (.int r)) h' := by
  unfold f_Realm_ableWithout_0 at hf
  refine g_iconst (pc := 0) (0 : Int32) d_Realm_ableWithout_0 (by decide) ?_
  refine g_istore_n (pc := 1) [(3, .int (0 : Int32)), (0, .ref a0), (1, .int a1), (2, .int a2)] d_Realm_ableWithout_1 rfl (Nat.le_of_ble_eq_true rfl) rfl ?_
  refine g_iconst (pc := 2) (0 : Int32) d_Realm_ableWithout_2 (by decide) ?_
  refine g_istore (pc := 3) [(4, .int (0 : Int32)), (3, .int (0 : Int32)), (0, .ref a0), (1, .int a1), (2, .int a2)] d_Realm_ableWithout_3 (Nat.le_of_ble_eq_true rfl) rfl ?_
  refine g_lv [2, 3, 4, 1, 0] rfl ?_
  exact t_Realm_ableWithout_5  FU _ _ _ _ _ _ _ _  hf
def f_Realm_ableWithout (a0 : Nat) (a1 : Int32) (a2 : Int32) (h : mH) : Option (Int32 × mH) := f_Realm_ableWithout_0 a0 a1 a2 h
theorem c_Realm_ableWithout {sc : Nat × (Nat → Int32)} {a0 : Nat} {a1 : Int32} {a2 : Int32} {h : mH} {r : Int32} {h' : mH} (hf : f_Realm_ableWithout a0 a1 a2 h = some (r, h')) : MM sc y_Realm_ableWithout prog_5_method_17_code 5 (some .int) 3 67 [.ref a0, .int a1, .int a2] h (some (.int r)) h' :=
  mm_of_G (by decide) (Nat.le_of_ble_eq_true rfl) (t_Realm_ableWithout_0 _ _ _ _ _ _ hf)
/-! Q kill (II)I -/
set_option maxRecDepth 100000 in
theorem dd_Q_kill_0 : (decode prog_1_method_25_code 0 = .ok (.aload_n 0, 1)) ∧ (decode prog_1_method_25_code 1 = .ok (.getfield 19, 3)) ∧ (decode prog_1_method_25_code 4 = .ok (.iload_n 1, 1)) ∧ (decode prog_1_method_25_code 5 = .ok (.invokevirtual 109, 3)) ∧ (decode prog_1_method_25_code 8 = .ok (.ifCond .eq 12, 3)) ∧ (decode prog_1_method_25_code 11 = .ok (.iload_n 2, 1)) ∧ (decode prog_1_method_25_code 12 = .ok (.iconst 0, 1)) ∧ (decode prog_1_method_25_code 13 = .ok (.iconst 1, 1)) ∧ (decode prog_1_method_25_code 14 = .ok (.invokestatic 62, 3)) ∧ (decode prog_1_method_25_code 17 = .ok (.ifCond .ne 5, 3)) ∧ (decode prog_1_method_25_code 20 = .ok (.iconst (-1), 1)) ∧ (decode prog_1_method_25_code 21 = .ok (.ireturn, 1)) ∧ (decode prog_1_method_25_code 22 = .ok (.aload_n 0, 1)) ∧ (decode prog_1_method_25_code 23 = .ok (.getfield 19, 3)) ∧ (decode prog_1_method_25_code 26 = .ok (.getfield 103, 3)) ∧ (decode prog_1_method_25_code 29 = .ok (.iload_n 1, 1)) ∧ (decode prog_1_method_25_code 30 = .ok (.invokestatic 177, 3)) ∧ (decode prog_1_method_25_code 33 = .ok (.ifCond .ne 6, 3)) ∧ (decode prog_1_method_25_code 36 = .ok (.bipush (-2), 2)) ∧ (decode prog_1_method_25_code 38 = .ok (.ireturn, 1)) ∧ (decode prog_1_method_25_code 39 = .ok (.bipush (-4), 2)) ∧ (decode prog_1_method_25_code 41 = .ok (.istore_n 3, 1)) ∧ (decode prog_1_method_25_code 42 = .ok (.iconst 0, 1)) ∧ (decode prog_1_method_25_code 43 = .ok (.istore 4, 2)) := by
  have h : List.drop 0 prog_1_method_25_code.data.toList = 0x2a :: _ := rfl
  refine ⟨zq_k_n 42 h rfl (zq_o_42 _), ?_⟩
  replace h := zq_nx1 (q := 1) h rfl
  refine ⟨zq_k_u2 180 (fun z => .getfield z) 19 h rfl (zq_o_180 _) (by decide +kernel), ?_⟩
  replace h := zq_nx3 (q := 4) h rfl
  refine ⟨zq_k_n 27 h rfl (zq_o_27 _), ?_⟩
  replace h := zq_nx1 (q := 5) h rfl
  refine ⟨zq_k_u2 182 (fun z => .invokevirtual z) 109 h rfl (zq_o_182 _) (by decide +kernel), ?_⟩
  replace h := zq_nx3 (q := 8) h rfl
  refine ⟨zq_k_s2 153 (fun z => .ifCond .eq z) 12 h rfl (zq_o_153 _) (by decide +kernel), ?_⟩
  replace h := zq_nx3 (q := 11) h rfl
  refine ⟨zq_k_n 28 h rfl (zq_o_28 _), ?_⟩
  replace h := zq_nx1 (q := 12) h rfl
  refine ⟨zq_k_n 3 h rfl (zq_o_3 _), ?_⟩
  replace h := zq_nx1 (q := 13) h rfl
  refine ⟨zq_k_n 4 h rfl (zq_o_4 _), ?_⟩
  replace h := zq_nx1 (q := 14) h rfl
  refine ⟨zq_k_u2 184 (fun z => .invokestatic z) 62 h rfl (zq_o_184 _) (by decide +kernel), ?_⟩
  replace h := zq_nx3 (q := 17) h rfl
  refine ⟨zq_k_s2 154 (fun z => .ifCond .ne z) 5 h rfl (zq_o_154 _) (by decide +kernel), ?_⟩
  replace h := zq_nx3 (q := 20) h rfl
  refine ⟨zq_k_n 2 h rfl (zq_o_2 _), ?_⟩
  replace h := zq_nx1 (q := 21) h rfl
  refine ⟨zq_k_n 172 h rfl (zq_o_172 _), ?_⟩
  replace h := zq_nx1 (q := 22) h rfl
  refine ⟨zq_k_n 42 h rfl (zq_o_42 _), ?_⟩
  replace h := zq_nx1 (q := 23) h rfl
  refine ⟨zq_k_u2 180 (fun z => .getfield z) 19 h rfl (zq_o_180 _) (by decide +kernel), ?_⟩
  replace h := zq_nx3 (q := 26) h rfl
  refine ⟨zq_k_u2 180 (fun z => .getfield z) 103 h rfl (zq_o_180 _) (by decide +kernel), ?_⟩
  replace h := zq_nx3 (q := 29) h rfl
  refine ⟨zq_k_n 27 h rfl (zq_o_27 _), ?_⟩
  replace h := zq_nx1 (q := 30) h rfl
  refine ⟨zq_k_u2 184 (fun z => .invokestatic z) 177 h rfl (zq_o_184 _) (by decide +kernel), ?_⟩
  replace h := zq_nx3 (q := 33) h rfl
  refine ⟨zq_k_s2 154 (fun z => .ifCond .ne z) 6 h rfl (zq_o_154 _) (by decide +kernel), ?_⟩
  replace h := zq_nx3 (q := 36) h rfl
  refine ⟨zq_k_s1 16 (fun z => .bipush z) (-2) h rfl (zq_o_16 _) (by decide +kernel), ?_⟩
  replace h := zq_nx2 (q := 38) h rfl
  refine ⟨zq_k_n 172 h rfl (zq_o_172 _), ?_⟩
  replace h := zq_nx1 (q := 39) h rfl
  refine ⟨zq_k_s1 16 (fun z => .bipush z) (-4) h rfl (zq_o_16 _) (by decide +kernel), ?_⟩
  replace h := zq_nx2 (q := 41) h rfl
  refine ⟨zq_k_n 62 h rfl (zq_o_62 _), ?_⟩
  replace h := zq_nx1 (q := 42) h rfl
  refine ⟨zq_k_n 3 h rfl (zq_o_3 _), ?_⟩
  replace h := zq_nx1 (q := 43) h rfl
  exact zq_k_u1 54 (fun z => .istore z) 4 h rfl (zq_o_54 _) (by decide +kernel)
theorem d_Q_kill_0 : decode prog_1_method_25_code 0 = .ok (.aload_n 0, 1) := dd_Q_kill_0.1
theorem d_Q_kill_1 : decode prog_1_method_25_code 1 = .ok (.getfield 19, 3) := dd_Q_kill_0.2.1
theorem d_Q_kill_4 : decode prog_1_method_25_code 4 = .ok (.iload_n 1, 1) := dd_Q_kill_0.2.2.1
theorem d_Q_kill_5 : decode prog_1_method_25_code 5 = .ok (.invokevirtual 109, 3) := dd_Q_kill_0.2.2.2.1
theorem d_Q_kill_8 : decode prog_1_method_25_code 8 = .ok (.ifCond .eq 12, 3) := dd_Q_kill_0.2.2.2.2.1
theorem d_Q_kill_11 : decode prog_1_method_25_code 11 = .ok (.iload_n 2, 1) := dd_Q_kill_0.2.2.2.2.2.1
theorem d_Q_kill_12 : decode prog_1_method_25_code 12 = .ok (.iconst 0, 1) := dd_Q_kill_0.2.2.2.2.2.2.1
theorem d_Q_kill_13 : decode prog_1_method_25_code 13 = .ok (.iconst 1, 1) := dd_Q_kill_0.2.2.2.2.2.2.2.1
theorem d_Q_kill_14 : decode prog_1_method_25_code 14 = .ok (.invokestatic 62, 3) := dd_Q_kill_0.2.2.2.2.2.2.2.2.1
theorem d_Q_kill_17 : decode prog_1_method_25_code 17 = .ok (.ifCond .ne 5, 3) := dd_Q_kill_0.2.2.2.2.2.2.2.2.2.1
theorem d_Q_kill_20 : decode prog_1_method_25_code 20 = .ok (.iconst (-1), 1) := dd_Q_kill_0.2.2.2.2.2.2.2.2.2.2.1
theorem d_Q_kill_21 : decode prog_1_method_25_code 21 = .ok (.ireturn, 1) := dd_Q_kill_0.2.2.2.2.2.2.2.2.2.2.2.1
theorem d_Q_kill_22 : decode prog_1_method_25_code 22 = .ok (.aload_n 0, 1) := dd_Q_kill_0.2.2.2.2.2.2.2.2.2.2.2.2.1
theorem d_Q_kill_23 : decode prog_1_method_25_code 23 = .ok (.getfield 19, 3) := dd_Q_kill_0.2.2.2.2.2.2.2.2.2.2.2.2.2.1
theorem d_Q_kill_26 : decode prog_1_method_25_code 26 = .ok (.getfield 103, 3) := dd_Q_kill_0.2.2.2.2.2.2.2.2.2.2.2.2.2.2.1
theorem d_Q_kill_29 : decode prog_1_method_25_code 29 = .ok (.iload_n 1, 1) := dd_Q_kill_0.2.2.2.2.2.2.2.2.2.2.2.2.2.2.2.1
theorem d_Q_kill_30 : decode prog_1_method_25_code 30 = .ok (.invokestatic 177, 3) := dd_Q_kill_0.2.2.2.2.2.2.2.2.2.2.2.2.2.2.2.2.1
theorem d_Q_kill_33 : decode prog_1_method_25_code 33 = .ok (.ifCond .ne 6, 3) := dd_Q_kill_0.2.2.2.2.2.2.2.2.2.2.2.2.2.2.2.2.2.1
theorem d_Q_kill_36 : decode prog_1_method_25_code 36 = .ok (.bipush (-2), 2) := dd_Q_kill_0.2.2.2.2.2.2.2.2.2.2.2.2.2.2.2.2.2.2.1
theorem d_Q_kill_38 : decode prog_1_method_25_code 38 = .ok (.ireturn, 1) := dd_Q_kill_0.2.2.2.2.2.2.2.2.2.2.2.2.2.2.2.2.2.2.2.1
theorem d_Q_kill_39 : decode prog_1_method_25_code 39 = .ok (.bipush (-4), 2) := dd_Q_kill_0.2.2.2.2.2.2.2.2.2.2.2.2.2.2.2.2.2.2.2.2.1
theorem d_Q_kill_41 : decode prog_1_method_25_code 41 = .ok (.istore_n 3, 1) := dd_Q_kill_0.2.2.2.2.2.2.2.2.2.2.2.2.2.2.2.2.2.2.2.2.2.1
theorem d_Q_kill_42 : decode prog_1_method_25_code 42 = .ok (.iconst 0, 1) := dd_Q_kill_0.2.2.2.2.2.2.2.2.2.2.2.2.2.2.2.2.2.2.2.2.2.2.1
theorem d_Q_kill_43 : decode prog_1_method_25_code 43 = .ok (.istore 4, 2) := dd_Q_kill_0.2.2.2.2.2.2.2.2.2.2.2.2.2.2.2.2.2.2.2.2.2.2.2
set_option maxRecDepth 100000 in
theorem dd_Q_kill_45 : (decode prog_1_method_25_code 45 = .ok (.iload 4, 2)) ∧ (decode prog_1_method_25_code 47 = .ok (.iconst 1, 1)) ∧ (decode prog_1_method_25_code 48 = .ok (.aload_n 0, 1)) ∧ (decode prog_1_method_25_code 49 = .ok (.getfield 19, 3)) ∧ (decode prog_1_method_25_code 52 = .ok (.getfield 94, 3)) ∧ (decode prog_1_method_25_code 55 = .ok (.ishl, 1)) ∧ (decode prog_1_method_25_code 56 = .ok (.if_icmp .ge 63, 3)) ∧ (decode prog_1_method_25_code 59 = .ok (.iload_n 3, 1)) ∧ (decode prog_1_method_25_code 60 = .ok (.bipush (-4), 2)) ∧ (decode prog_1_method_25_code 62 = .ok (.if_icmp .eq 15, 3)) ∧ (decode prog_1_method_25_code 65 = .ok (.iload 4, 2)) ∧ (decode prog_1_method_25_code 67 = .ok (.invokestatic 180, 3)) ∧ (decode prog_1_method_25_code 70 = .ok (.iload_n 3, 1)) ∧ (decode prog_1_method_25_code 71 = .ok (.invokestatic 180, 3)) ∧ (decode prog_1_method_25_code 74 = .ok (.if_icmp .ge 7, 3)) ∧ (decode prog_1_method_25_code 77 = .ok (.iconst 1, 1)) ∧ (decode prog_1_method_25_code 78 = .ok (.goto 4, 3)) ∧ (decode prog_1_method_25_code 81 = .ok (.iconst 0, 1)) ∧ (decode prog_1_method_25_code 82 = .ok (.istore 5, 2)) ∧ (decode prog_1_method_25_code 84 = .ok (.iload 5, 2)) ∧ (decode prog_1_method_25_code 86 = .ok (.ifCond .eq 27, 3)) ∧ (decode prog_1_method_25_code 89 = .ok (.aload_n 0, 1)) ∧ (decode prog_1_method_25_code 90 = .ok (.getfield 19, 3)) ∧ (decode prog_1_method_25_code 93 = .ok (.iload 4, 2)) := by
  have h : List.drop 45 prog_1_method_25_code.data.toList = 0x15 :: _ := rfl
  refine ⟨zq_k_u1 21 (fun z => .iload z) 4 h rfl (zq_o_21 _) (by decide +kernel), ?_⟩
  replace h := zq_nx2 (q := 47) h rfl
  refine ⟨zq_k_n 4 h rfl (zq_o_4 _), ?_⟩
  replace h := zq_nx1 (q := 48) h rfl
  refine ⟨zq_k_n 42 h rfl (zq_o_42 _), ?_⟩
  replace h := zq_nx1 (q := 49) h rfl
  refine ⟨zq_k_u2 180 (fun z => .getfield z) 19 h rfl (zq_o_180 _) (by decide +kernel), ?_⟩
  replace h := zq_nx3 (q := 52) h rfl
  refine ⟨zq_k_u2 180 (fun z => .getfield z) 94 h rfl (zq_o_180 _) (by decide +kernel), ?_⟩
  replace h := zq_nx3 (q := 55) h rfl
  refine ⟨zq_k_n 120 h rfl (zq_o_120 _), ?_⟩
  replace h := zq_nx1 (q := 56) h rfl
  refine ⟨zq_k_s2 162 (fun z => .if_icmp .ge z) 63 h rfl (zq_o_162 _) (by decide +kernel), ?_⟩
  replace h := zq_nx3 (q := 59) h rfl
  refine ⟨zq_k_n 29 h rfl (zq_o_29 _), ?_⟩
  replace h := zq_nx1 (q := 60) h rfl
  refine ⟨zq_k_s1 16 (fun z => .bipush z) (-4) h rfl (zq_o_16 _) (by decide +kernel), ?_⟩
  replace h := zq_nx2 (q := 62) h rfl
  refine ⟨zq_k_s2 159 (fun z => .if_icmp .eq z) 15 h rfl (zq_o_159 _) (by decide +kernel), ?_⟩
  replace h := zq_nx3 (q := 65) h rfl
  refine ⟨zq_k_u1 21 (fun z => .iload z) 4 h rfl (zq_o_21 _) (by decide +kernel), ?_⟩
  replace h := zq_nx2 (q := 67) h rfl
  refine ⟨zq_k_u2 184 (fun z => .invokestatic z) 180 h rfl (zq_o_184 _) (by decide +kernel), ?_⟩
  replace h := zq_nx3 (q := 70) h rfl
  refine ⟨zq_k_n 29 h rfl (zq_o_29 _), ?_⟩
  replace h := zq_nx1 (q := 71) h rfl
  refine ⟨zq_k_u2 184 (fun z => .invokestatic z) 180 h rfl (zq_o_184 _) (by decide +kernel), ?_⟩
  replace h := zq_nx3 (q := 74) h rfl
  refine ⟨zq_k_s2 162 (fun z => .if_icmp .ge z) 7 h rfl (zq_o_162 _) (by decide +kernel), ?_⟩
  replace h := zq_nx3 (q := 77) h rfl
  refine ⟨zq_k_n 4 h rfl (zq_o_4 _), ?_⟩
  replace h := zq_nx1 (q := 78) h rfl
  refine ⟨zq_k_s2 167 (fun z => .goto z) 4 h rfl (zq_o_167 _) (by decide +kernel), ?_⟩
  replace h := zq_nx3 (q := 81) h rfl
  refine ⟨zq_k_n 3 h rfl (zq_o_3 _), ?_⟩
  replace h := zq_nx1 (q := 82) h rfl
  refine ⟨zq_k_u1 54 (fun z => .istore z) 5 h rfl (zq_o_54 _) (by decide +kernel), ?_⟩
  replace h := zq_nx2 (q := 84) h rfl
  refine ⟨zq_k_u1 21 (fun z => .iload z) 5 h rfl (zq_o_21 _) (by decide +kernel), ?_⟩
  replace h := zq_nx2 (q := 86) h rfl
  refine ⟨zq_k_s2 153 (fun z => .ifCond .eq z) 27 h rfl (zq_o_153 _) (by decide +kernel), ?_⟩
  replace h := zq_nx3 (q := 89) h rfl
  refine ⟨zq_k_n 42 h rfl (zq_o_42 _), ?_⟩
  replace h := zq_nx1 (q := 90) h rfl
  refine ⟨zq_k_u2 180 (fun z => .getfield z) 19 h rfl (zq_o_180 _) (by decide +kernel), ?_⟩
  replace h := zq_nx3 (q := 93) h rfl
  exact zq_k_u1 21 (fun z => .iload z) 4 h rfl (zq_o_21 _) (by decide +kernel)
theorem d_Q_kill_45 : decode prog_1_method_25_code 45 = .ok (.iload 4, 2) := dd_Q_kill_45.1
theorem d_Q_kill_47 : decode prog_1_method_25_code 47 = .ok (.iconst 1, 1) := dd_Q_kill_45.2.1
theorem d_Q_kill_48 : decode prog_1_method_25_code 48 = .ok (.aload_n 0, 1) := dd_Q_kill_45.2.2.1
theorem d_Q_kill_49 : decode prog_1_method_25_code 49 = .ok (.getfield 19, 3) := dd_Q_kill_45.2.2.2.1
theorem d_Q_kill_52 : decode prog_1_method_25_code 52 = .ok (.getfield 94, 3) := dd_Q_kill_45.2.2.2.2.1
theorem d_Q_kill_55 : decode prog_1_method_25_code 55 = .ok (.ishl, 1) := dd_Q_kill_45.2.2.2.2.2.1
theorem d_Q_kill_56 : decode prog_1_method_25_code 56 = .ok (.if_icmp .ge 63, 3) := dd_Q_kill_45.2.2.2.2.2.2.1
theorem d_Q_kill_59 : decode prog_1_method_25_code 59 = .ok (.iload_n 3, 1) := dd_Q_kill_45.2.2.2.2.2.2.2.1
theorem d_Q_kill_60 : decode prog_1_method_25_code 60 = .ok (.bipush (-4), 2) := dd_Q_kill_45.2.2.2.2.2.2.2.2.1
theorem d_Q_kill_62 : decode prog_1_method_25_code 62 = .ok (.if_icmp .eq 15, 3) := dd_Q_kill_45.2.2.2.2.2.2.2.2.2.1
theorem d_Q_kill_65 : decode prog_1_method_25_code 65 = .ok (.iload 4, 2) := dd_Q_kill_45.2.2.2.2.2.2.2.2.2.2.1
theorem d_Q_kill_67 : decode prog_1_method_25_code 67 = .ok (.invokestatic 180, 3) := dd_Q_kill_45.2.2.2.2.2.2.2.2.2.2.2.1
theorem d_Q_kill_70 : decode prog_1_method_25_code 70 = .ok (.iload_n 3, 1) := dd_Q_kill_45.2.2.2.2.2.2.2.2.2.2.2.2.1
theorem d_Q_kill_71 : decode prog_1_method_25_code 71 = .ok (.invokestatic 180, 3) := dd_Q_kill_45.2.2.2.2.2.2.2.2.2.2.2.2.2.1
theorem d_Q_kill_74 : decode prog_1_method_25_code 74 = .ok (.if_icmp .ge 7, 3) := dd_Q_kill_45.2.2.2.2.2.2.2.2.2.2.2.2.2.2.1
theorem d_Q_kill_77 : decode prog_1_method_25_code 77 = .ok (.iconst 1, 1) := dd_Q_kill_45.2.2.2.2.2.2.2.2.2.2.2.2.2.2.2.1
theorem d_Q_kill_78 : decode prog_1_method_25_code 78 = .ok (.goto 4, 3) := dd_Q_kill_45.2.2.2.2.2.2.2.2.2.2.2.2.2.2.2.2.1
theorem d_Q_kill_81 : decode prog_1_method_25_code 81 = .ok (.iconst 0, 1) := dd_Q_kill_45.2.2.2.2.2.2.2.2.2.2.2.2.2.2.2.2.2.1
theorem d_Q_kill_82 : decode prog_1_method_25_code 82 = .ok (.istore 5, 2) := dd_Q_kill_45.2.2.2.2.2.2.2.2.2.2.2.2.2.2.2.2.2.2.1
theorem d_Q_kill_84 : decode prog_1_method_25_code 84 = .ok (.iload 5, 2) := dd_Q_kill_45.2.2.2.2.2.2.2.2.2.2.2.2.2.2.2.2.2.2.2.1
theorem d_Q_kill_86 : decode prog_1_method_25_code 86 = .ok (.ifCond .eq 27, 3) := dd_Q_kill_45.2.2.2.2.2.2.2.2.2.2.2.2.2.2.2.2.2.2.2.2.1
theorem d_Q_kill_89 : decode prog_1_method_25_code 89 = .ok (.aload_n 0, 1) := dd_Q_kill_45.2.2.2.2.2.2.2.2.2.2.2.2.2.2.2.2.2.2.2.2.2.1
theorem d_Q_kill_90 : decode prog_1_method_25_code 90 = .ok (.getfield 19, 3) := dd_Q_kill_45.2.2.2.2.2.2.2.2.2.2.2.2.2.2.2.2.2.2.2.2.2.2.1
theorem d_Q_kill_93 : decode prog_1_method_25_code 93 = .ok (.iload 4, 2) := dd_Q_kill_45.2.2.2.2.2.2.2.2.2.2.2.2.2.2.2.2.2.2.2.2.2.2.2
set_option maxRecDepth 100000 in
theorem dd_Q_kill_95 : (decode prog_1_method_25_code 95 = .ok (.iload_n 1, 1)) ∧ (decode prog_1_method_25_code 96 = .ok (.invokevirtual 214, 3)) ∧ (decode prog_1_method_25_code 99 = .ok (.aload_n 0, 1)) ∧ (decode prog_1_method_25_code 100 = .ok (.getfield 19, 3)) ∧ (decode prog_1_method_25_code 103 = .ok (.iload_n 1, 1)) ∧ (decode prog_1_method_25_code 104 = .ok (.invokevirtual 128, 3)) ∧ (decode prog_1_method_25_code 107 = .ok (.if_icmp .ge 6, 3)) ∧ (decode prog_1_method_25_code 110 = .ok (.iload 4, 2)) ∧ (decode prog_1_method_25_code 112 = .ok (.istore_n 3, 1)) ∧ (decode prog_1_method_25_code 113 = .ok (.iinc 4 1, 3)) ∧ (decode prog_1_method_25_code 116 = .ok (.goto (-71), 3)) ∧ (decode prog_1_method_25_code 119 = .ok (.iload_n 2, 1)) ∧ (decode prog_1_method_25_code 120 = .ok (.ifCond .ne 16, 3)) ∧ (decode prog_1_method_25_code 123 = .ok (.iload_n 3, 1)) ∧ (decode prog_1_method_25_code 124 = .ok (.bipush (-4), 2)) ∧ (decode prog_1_method_25_code 126 = .ok (.if_icmp .eq 10, 3)) ∧ (decode prog_1_method_25_code 129 = .ok (.iload_n 3, 1)) ∧ (decode prog_1_method_25_code 130 = .ok (.invokestatic 180, 3)) ∧ (decode prog_1_method_25_code 133 = .ok (.goto 4, 3)) ∧ (decode prog_1_method_25_code 136 = .ok (.iload_n 3, 1)) ∧ (decode prog_1_method_25_code 137 = .ok (.ireturn, 1)) := by
  have h : List.drop 95 prog_1_method_25_code.data.toList = 0x1b :: _ := rfl
  refine ⟨zq_k_n 27 h rfl (zq_o_27 _), ?_⟩
  replace h := zq_nx1 (q := 96) h rfl
  refine ⟨zq_k_u2 182 (fun z => .invokevirtual z) 214 h rfl (zq_o_182 _) (by decide +kernel), ?_⟩
  replace h := zq_nx3 (q := 99) h rfl
  refine ⟨zq_k_n 42 h rfl (zq_o_42 _), ?_⟩
  replace h := zq_nx1 (q := 100) h rfl
  refine ⟨zq_k_u2 180 (fun z => .getfield z) 19 h rfl (zq_o_180 _) (by decide +kernel), ?_⟩
  replace h := zq_nx3 (q := 103) h rfl
  refine ⟨zq_k_n 27 h rfl (zq_o_27 _), ?_⟩
  replace h := zq_nx1 (q := 104) h rfl
  refine ⟨zq_k_u2 182 (fun z => .invokevirtual z) 128 h rfl (zq_o_182 _) (by decide +kernel), ?_⟩
  replace h := zq_nx3 (q := 107) h rfl
  refine ⟨zq_k_s2 162 (fun z => .if_icmp .ge z) 6 h rfl (zq_o_162 _) (by decide +kernel), ?_⟩
  replace h := zq_nx3 (q := 110) h rfl
  refine ⟨zq_k_u1 21 (fun z => .iload z) 4 h rfl (zq_o_21 _) (by decide +kernel), ?_⟩
  replace h := zq_nx2 (q := 112) h rfl
  refine ⟨zq_k_n 62 h rfl (zq_o_62 _), ?_⟩
  replace h := zq_nx1 (q := 113) h rfl
  refine ⟨zq_k_iinc 4 1 h rfl (zq_o_132 _) (by decide +kernel) (by decide +kernel), ?_⟩
  replace h := zq_nx3 (q := 116) h rfl
  refine ⟨zq_k_s2 167 (fun z => .goto z) (-71) h rfl (zq_o_167 _) (by decide +kernel), ?_⟩
  replace h := zq_nx3 (q := 119) h rfl
  refine ⟨zq_k_n 28 h rfl (zq_o_28 _), ?_⟩
  replace h := zq_nx1 (q := 120) h rfl
  refine ⟨zq_k_s2 154 (fun z => .ifCond .ne z) 16 h rfl (zq_o_154 _) (by decide +kernel), ?_⟩
  replace h := zq_nx3 (q := 123) h rfl
  refine ⟨zq_k_n 29 h rfl (zq_o_29 _), ?_⟩
  replace h := zq_nx1 (q := 124) h rfl
  refine ⟨zq_k_s1 16 (fun z => .bipush z) (-4) h rfl (zq_o_16 _) (by decide +kernel), ?_⟩
  replace h := zq_nx2 (q := 126) h rfl
  refine ⟨zq_k_s2 159 (fun z => .if_icmp .eq z) 10 h rfl (zq_o_159 _) (by decide +kernel), ?_⟩
  replace h := zq_nx3 (q := 129) h rfl
  refine ⟨zq_k_n 29 h rfl (zq_o_29 _), ?_⟩
  replace h := zq_nx1 (q := 130) h rfl
  refine ⟨zq_k_u2 184 (fun z => .invokestatic z) 180 h rfl (zq_o_184 _) (by decide +kernel), ?_⟩
  replace h := zq_nx3 (q := 133) h rfl
  refine ⟨zq_k_s2 167 (fun z => .goto z) 4 h rfl (zq_o_167 _) (by decide +kernel), ?_⟩
  replace h := zq_nx3 (q := 136) h rfl
  refine ⟨zq_k_n 29 h rfl (zq_o_29 _), ?_⟩
  replace h := zq_nx1 (q := 137) h rfl
  exact zq_k_n 172 h rfl (zq_o_172 _)
theorem d_Q_kill_95 : decode prog_1_method_25_code 95 = .ok (.iload_n 1, 1) := dd_Q_kill_95.1
theorem d_Q_kill_96 : decode prog_1_method_25_code 96 = .ok (.invokevirtual 214, 3) := dd_Q_kill_95.2.1
theorem d_Q_kill_99 : decode prog_1_method_25_code 99 = .ok (.aload_n 0, 1) := dd_Q_kill_95.2.2.1
theorem d_Q_kill_100 : decode prog_1_method_25_code 100 = .ok (.getfield 19, 3) := dd_Q_kill_95.2.2.2.1
theorem d_Q_kill_103 : decode prog_1_method_25_code 103 = .ok (.iload_n 1, 1) := dd_Q_kill_95.2.2.2.2.1
theorem d_Q_kill_104 : decode prog_1_method_25_code 104 = .ok (.invokevirtual 128, 3) := dd_Q_kill_95.2.2.2.2.2.1
theorem d_Q_kill_107 : decode prog_1_method_25_code 107 = .ok (.if_icmp .ge 6, 3) := dd_Q_kill_95.2.2.2.2.2.2.1
theorem d_Q_kill_110 : decode prog_1_method_25_code 110 = .ok (.iload 4, 2) := dd_Q_kill_95.2.2.2.2.2.2.2.1
theorem d_Q_kill_112 : decode prog_1_method_25_code 112 = .ok (.istore_n 3, 1) := dd_Q_kill_95.2.2.2.2.2.2.2.2.1
theorem d_Q_kill_113 : decode prog_1_method_25_code 113 = .ok (.iinc 4 1, 3) := dd_Q_kill_95.2.2.2.2.2.2.2.2.2.1
theorem d_Q_kill_116 : decode prog_1_method_25_code 116 = .ok (.goto (-71), 3) := dd_Q_kill_95.2.2.2.2.2.2.2.2.2.2.1
theorem d_Q_kill_119 : decode prog_1_method_25_code 119 = .ok (.iload_n 2, 1) := dd_Q_kill_95.2.2.2.2.2.2.2.2.2.2.2.1
theorem d_Q_kill_120 : decode prog_1_method_25_code 120 = .ok (.ifCond .ne 16, 3) := dd_Q_kill_95.2.2.2.2.2.2.2.2.2.2.2.2.1
theorem d_Q_kill_123 : decode prog_1_method_25_code 123 = .ok (.iload_n 3, 1) := dd_Q_kill_95.2.2.2.2.2.2.2.2.2.2.2.2.2.1
theorem d_Q_kill_124 : decode prog_1_method_25_code 124 = .ok (.bipush (-4), 2) := dd_Q_kill_95.2.2.2.2.2.2.2.2.2.2.2.2.2.2.1
theorem d_Q_kill_126 : decode prog_1_method_25_code 126 = .ok (.if_icmp .eq 10, 3) := dd_Q_kill_95.2.2.2.2.2.2.2.2.2.2.2.2.2.2.2.1
theorem d_Q_kill_129 : decode prog_1_method_25_code 129 = .ok (.iload_n 3, 1) := dd_Q_kill_95.2.2.2.2.2.2.2.2.2.2.2.2.2.2.2.2.1
theorem d_Q_kill_130 : decode prog_1_method_25_code 130 = .ok (.invokestatic 180, 3) := dd_Q_kill_95.2.2.2.2.2.2.2.2.2.2.2.2.2.2.2.2.2.1
theorem d_Q_kill_133 : decode prog_1_method_25_code 133 = .ok (.goto 4, 3) := dd_Q_kill_95.2.2.2.2.2.2.2.2.2.2.2.2.2.2.2.2.2.2.1
theorem d_Q_kill_136 : decode prog_1_method_25_code 136 = .ok (.iload_n 3, 1) := dd_Q_kill_95.2.2.2.2.2.2.2.2.2.2.2.2.2.2.2.2.2.2.2.1
theorem d_Q_kill_137 : decode prog_1_method_25_code 137 = .ok (.ireturn, 1) := dd_Q_kill_95.2.2.2.2.2.2.2.2.2.2.2.2.2.2.2.2.2.2.2.2
def f_Q_kill_136  (b3 : Int32) (h : mH) : Option (Int32 × mH) :=
  some (b3, h)
set_option maxRecDepth 20000 in
theorem t_Q_kill_136 {sc : Nat × (Nat → Int32)}  (b3 : Int32) (h : mH) (r : Int32) (h' : mH) (hf : f_Q_kill_136  b3 h = some (r, h')) : G sc y_Q_kill prog_1_method_25_code 6 (some .int) 4 91 136 [(3, .int b3)] [] h (some (.int r)) h' := by
  unfold f_Q_kill_136 at hf
  refine g_iload_n (pc := 136) 0 d_Q_kill_136 rfl rfl ?_
  obtain ⟨rfl, rfl⟩ := ret2 hf
  exact g_iret (pc := 137) rfl d_Q_kill_137
def f_Q_kill_113 (rec45 : Nat → Int32 → Int32 → Int32 → Int32 → mH → Option (Int32 × mH)) (b0 : Nat) (b1 : Int32) (b2 : Int32) (b3 : Int32) (b4 : Int32) (h : mH) : Option (Int32 × mH) :=
  rec45 b0 b1 b2 b3 (b4 + (1 : Int32)) h
set_option maxRecDepth 20000 in
theorem t_Q_kill_113 {sc : Nat × (Nat → Int32)} (rec45 : Nat → Int32 → Int32 → Int32 → Int32 → mH → Option (Int32 × mH)) (hrec45 : ∀ (b0 : Nat) (b1 : Int32) (b2 : Int32) (b3 : Int32) (b4 : Int32) (h : mH) (r : Int32) (h' : mH), rec45 b0 b1 b2 b3 b4 h = some (r, h') → G sc y_Q_kill prog_1_method_25_code 6 (some .int) 4 91 45 [(0, .ref b0), (1, .int b1), (2, .int b2), (3, .int b3), (4, .int b4)] [] h (some (.int r)) h') (b0 : Nat) (b1 : Int32) (b2 : Int32) (b3 : Int32) (b4 : Int32) (h : mH) (r : Int32) (h' : mH) (hf : f_Q_kill_113 rec45 b0 b1 b2 b3 b4 h = some (r, h')) : G sc y_Q_kill prog_1_method_25_code 6 (some .int) 4 91 113 [(0, .ref b0), (1, .int b1), (2, .int b2), (3, .int b3), (4, .int b4)] [] h (some (.int r)) h' := by
  unfold f_Q_kill_113 at hf
  refine g_iinc (pc := 113) 4 (b4 + (1 : Int32)) [(4, .int (b4 + (1 : Int32))), (0, .ref b0), (1, .int b1), (2, .int b2), (3, .int b3)] d_Q_kill_113 rfl rfl (Nat.le_of_ble_eq_true rfl) rfl ?_
  refine g_goto (pc := 116) 45 d_Q_kill_116 (by decide) ?_
  refine g_lv [1, 2, 3, 4, 0] rfl ?_
  exact hrec45 _ _ _ _ _ _ _ _  hf
def f_Q_kill_82 (rec45 : Nat → Int32 → Int32 → Int32 → Int32 → mH → Option (Int32 × mH)) (b0 : Nat) (b1 : Int32) (b2 : Int32) (b3 : Int32) (b4 : Int32) (s0 : Int32) (h : mH) : Option (Int32 × mH) :=
  if s0 = 0 then
    f_Q_kill_113 rec45 b0 b1 b2 b3 b4 h
  else
    bd1 (gR h b0 0 1) fun x39 =>
    bd1 (kC h x39 4) fun _ =>
    bd2 (f_Realm_ableWithout x39 b4 b1 h) fun x45 h43 =>
    bd1 (gR h43 b0 0 1) fun x46 =>
    bd1 (kC h43 x46 4) fun _ =>
    bd2 (f_Realm_needOf x46 b1 h43) fun x52 h50 =>
    if x52 ≤ x45 then
      f_Q_kill_113 rec45 b0 b1 b2 b3 b4 h50
    else
      f_Q_kill_113 rec45 b0 b1 b2 b4 b4 h50
set_option maxRecDepth 20000 in
theorem t_Q_kill_82 {sc : Nat × (Nat → Int32)} (rec45 : Nat → Int32 → Int32 → Int32 → Int32 → mH → Option (Int32 × mH)) (hrec45 : ∀ (b0 : Nat) (b1 : Int32) (b2 : Int32) (b3 : Int32) (b4 : Int32) (h : mH) (r : Int32) (h' : mH), rec45 b0 b1 b2 b3 b4 h = some (r, h') → G sc y_Q_kill prog_1_method_25_code 6 (some .int) 4 91 45 [(0, .ref b0), (1, .int b1), (2, .int b2), (3, .int b3), (4, .int b4)] [] h (some (.int r)) h') (b0 : Nat) (b1 : Int32) (b2 : Int32) (b3 : Int32) (b4 : Int32) (s0 : Int32) (h : mH) (r : Int32) (h' : mH) (hf : f_Q_kill_82 rec45 b0 b1 b2 b3 b4 s0 h = some (r, h')) : G sc y_Q_kill prog_1_method_25_code 6 (some .int) 4 91 82 [(0, .ref b0), (1, .int b1), (2, .int b2), (3, .int b3), (4, .int b4)] [.int s0] h (some (.int r)) h' := by
  unfold f_Q_kill_82 at hf
  refine g_istore (pc := 82) [(5, .int s0), (0, .ref b0), (1, .int b1), (2, .int b2), (3, .int b3), (4, .int b4)] d_Q_kill_82 (Nat.le_of_ble_eq_true rfl) rfl ?_
  refine g_iload (pc := 84) 0 d_Q_kill_84 rfl ?_
  refine g_ifeq (pc := 86) 113 d_Q_kill_86 (by decide) (fun c54 => ?_) (fun c54 => ?_)
  · replace hf := (if_pos c54).symm.trans hf
    refine g_lv [1, 2, 3, 4, 5] rfl ?_
    exact t_Q_kill_113 rec45 hrec45 _ _ _ _ _ _ _ _  hf
  · replace hf := (if_neg c54).symm.trans hf
    refine g_aload_n (pc := 89) 1 d_Q_kill_89 rfl rfl ?_
    obtain ⟨x39, e40, hf⟩ := bd1_e hf
    refine g_get (pc := 90) (ci := 0) (kk := 1) d_Q_kill_90 rfl in_Q (by decide) wd_297 (gR_spec e40) ?_
    refine g_iload (pc := 93) 5 d_Q_kill_93 rfl ?_
    refine g_iload_n (pc := 95) 2 d_Q_kill_95 rfl rfl ?_
    obtain ⟨u42, e41, hf⟩ := bd1_e hf
    obtain ⟨x45, h43, e44, hf⟩ := bd2_e hf
    refine g_callV (pc := 96) (ci := 4) [.int b4, .int b1] (site_of si_Realm_ableWithout (by decide) (by decide)) wd_724 wd_725 wd_726 d_Q_kill_96 rfl e41 (Nat.le_of_ble_eq_true rfl) (fun z => absurd z (by decide)) (fun z => absurd z (by decide)) (fun z => absurd z (by decide)) (c_Realm_ableWithout e44) rfl ?_
    refine g_st [.int x45] rfl ?_
    refine g_aload_n (pc := 99) 1 d_Q_kill_99 rfl rfl ?_
    obtain ⟨x46, e47, hf⟩ := bd1_e hf
    refine g_get (pc := 100) (ci := 0) (kk := 1) d_Q_kill_100 rfl in_Q (by decide) wd_297 (gR_spec e47) ?_
    refine g_iload_n (pc := 103) 2 d_Q_kill_103 rfl rfl ?_
    obtain ⟨u49, e48, hf⟩ := bd1_e hf
    obtain ⟨x52, h50, e51, hf⟩ := bd2_e hf
    refine g_callV (pc := 104) (ci := 4) [.int b1] (site_of si_Realm_needOf (by decide) (by decide)) wd_520 wd_521 wd_522 d_Q_kill_104 rfl e48 (Nat.le_of_ble_eq_true rfl) (fun z => absurd z (by decide)) (fun z => absurd z (by decide)) (fun z => absurd z (by decide)) (c_Realm_needOf e51) rfl ?_
    refine g_st [.int x52, .int x45] rfl ?_
    refine g_icmpge (pc := 107) 113 d_Q_kill_107 (by decide) (fun c53 => ?_) (fun c53 => ?_)
    · replace hf := (if_pos c53).symm.trans hf
      refine g_lv [1, 2, 3, 4, 5] rfl ?_
      exact t_Q_kill_113 rec45 hrec45 _ _ _ _ _ _ _ _  hf
    · replace hf := (if_neg c53).symm.trans hf
      refine g_iload (pc := 110) 5 d_Q_kill_110 rfl ?_
      refine g_istore_n (pc := 112) [(3, .int b4), (5, .int s0), (0, .ref b0), (1, .int b1), (2, .int b2), (4, .int b4)] d_Q_kill_112 rfl (Nat.le_of_ble_eq_true rfl) rfl ?_
      refine g_lv [2, 3, 4, 0, 5] rfl ?_
      exact t_Q_kill_113 rec45 hrec45 _ _ _ _ _ _ _ _  hf
def f_Q_kill_77 (rec45 : Nat → Int32 → Int32 → Int32 → Int32 → mH → Option (Int32 × mH)) (b0 : Nat) (b1 : Int32) (b2 : Int32) (b3 : Int32) (b4 : Int32) (h : mH) : Option (Int32 × mH) :=
  f_Q_kill_82 rec45 b0 b1 b2 b3 b4 (1 : Int32) h
set_option maxRecDepth 20000 in
theorem t_Q_kill_77 {sc : Nat × (Nat → Int32)} (rec45 : Nat → Int32 → Int32 → Int32 → Int32 → mH → Option (Int32 × mH)) (hrec45 : ∀ (b0 : Nat) (b1 : Int32) (b2 : Int32) (b3 : Int32) (b4 : Int32) (h : mH) (r : Int32) (h' : mH), rec45 b0 b1 b2 b3 b4 h = some (r, h') → G sc y_Q_kill prog_1_method_25_code 6 (some .int) 4 91 45 [(0, .ref b0), (1, .int b1), (2, .int b2), (3, .int b3), (4, .int b4)] [] h (some (.int r)) h') (b0 : Nat) (b1 : Int32) (b2 : Int32) (b3 : Int32) (b4 : Int32) (h : mH) (r : Int32) (h' : mH) (hf : f_Q_kill_77 rec45 b0 b1 b2 b3 b4 h = some (r, h')) : G sc y_Q_kill prog_1_method_25_code 6 (some .int) 4 91 77 [(0, .ref b0), (1, .int b1), (2, .int b2), (3, .int b3), (4, .int b4)] [] h (some (.int r)) h' := by
  unfold f_Q_kill_77 at hf
  refine g_iconst (pc := 77) (1 : Int32) d_Q_kill_77 (by decide) ?_
  refine g_goto (pc := 78) 82 d_Q_kill_78 (by decide) ?_
  refine g_lv [0, 1, 2, 3, 4] rfl ?_
  exact t_Q_kill_82 rec45 hrec45 _ _ _ _ _ _ _ _ _  hf
def f_Q_kill_45b (rec45 : Nat → Int32 → Int32 → Int32 → Int32 → mH → Option (Int32 × mH)) (b0 : Nat) (b1 : Int32) (b2 : Int32) (b3 : Int32) (b4 : Int32) (h : mH) : Option (Int32 × mH) :=
  bd1 (gR h b0 0 1) fun x21 =>
  bd1 (gI h x21 4 1) fun x23 =>
  if ((1 : Int32) <<< (x23 &&& 31)) ≤ b4 then
    if b2 = 0 then
      if b3 = ((-4) : Int32) then
        f_Q_kill_136  b3 h
      else
        bd2 (f_Integer_bitCount b3 h) fun x27 h25 =>
        some (x27, h25)
    else
      f_Q_kill_136  b3 h
  else
    if b3 = ((-4) : Int32) then
      f_Q_kill_77 rec45 b0 b1 b2 b3 b4 h
    else
      bd2 (f_Integer_bitCount b4 h) fun x32 h30 =>
      bd2 (f_Integer_bitCount b3 h30) fun x35 h33 =>
      if x35 ≤ x32 then
        f_Q_kill_82 rec45 b0 b1 b2 b3 b4 (0 : Int32) h33
      else
        f_Q_kill_77 rec45 b0 b1 b2 b3 b4 h33
set_option maxRecDepth 20000 in
theorem t_Q_kill_45b {sc : Nat × (Nat → Int32)} (rec45 : Nat → Int32 → Int32 → Int32 → Int32 → mH → Option (Int32 × mH)) (hrec45 : ∀ (b0 : Nat) (b1 : Int32) (b2 : Int32) (b3 : Int32) (b4 : Int32) (h : mH) (r : Int32) (h' : mH), rec45 b0 b1 b2 b3 b4 h = some (r, h') → G sc y_Q_kill prog_1_method_25_code 6 (some .int) 4 91 45 [(0, .ref b0), (1, .int b1), (2, .int b2), (3, .int b3), (4, .int b4)] [] h (some (.int r)) h') (b0 : Nat) (b1 : Int32) (b2 : Int32) (b3 : Int32) (b4 : Int32) (h : mH) (r : Int32) (h' : mH) (hf : f_Q_kill_45b rec45 b0 b1 b2 b3 b4 h = some (r, h')) : G sc y_Q_kill prog_1_method_25_code 6 (some .int) 4 91 45 [(0, .ref b0), (1, .int b1), (2, .int b2), (3, .int b3), (4, .int b4)] [] h (some (.int r)) h' := by
  unfold f_Q_kill_45b at hf
  refine g_iload (pc := 45) 4 d_Q_kill_45 rfl ?_
  refine g_iconst (pc := 47) (1 : Int32) d_Q_kill_47 (by decide) ?_
  refine g_aload_n (pc := 48) 0 d_Q_kill_48 rfl rfl ?_
  obtain ⟨x21, e22, hf⟩ := bd1_e hf
  refine g_get (pc := 49) (ci := 0) (kk := 1) d_Q_kill_49 rfl in_Q (by decide) wd_297 (gR_spec e22) ?_
  obtain ⟨x23, e24, hf⟩ := bd1_e hf
  refine g_get (pc := 52) (ci := 4) (kk := 1) d_Q_kill_52 rfl in_Realm (by decide) wd_102 (gI_spec e24) ?_
  refine g_ishl (pc := 55) d_Q_kill_55 ?_
  refine g_icmpge (pc := 56) 119 d_Q_kill_56 (by decide) (fun c38 => ?_) (fun c38 => ?_)
  · replace hf := (if_pos c38).symm.trans hf
    refine g_iload_n (pc := 119) 2 d_Q_kill_119 rfl rfl ?_
    refine g_ifne (pc := 120) 136 d_Q_kill_120 (by decide) (fun c29 => ?_) (fun c29 => ?_)
    · replace hf := (if_neg c29).symm.trans hf
      refine g_lv [3] rfl ?_
      exact t_Q_kill_136  _ _ _ _  hf
    · replace hf := (if_pos c29).symm.trans hf
      refine g_iload_n (pc := 123) 3 d_Q_kill_123 rfl rfl ?_
      refine g_bipush (pc := 124) ((-4) : Int32) d_Q_kill_124 (by decide) ?_
      refine g_icmpeq (pc := 126) 136 d_Q_kill_126 (by decide) (fun c28 => ?_) (fun c28 => ?_)
      · replace hf := (if_pos c28).symm.trans hf
        refine g_lv [3] rfl ?_
        exact t_Q_kill_136  _ _ _ _  hf
      · replace hf := (if_neg c28).symm.trans hf
        refine g_iload_n (pc := 129) 3 d_Q_kill_129 rfl rfl ?_
        obtain ⟨x27, h25, e26, hf⟩ := bd2_e hf
        refine g_callS (pc := 130) [.int b3] (site_of si_Integer_bitCount (by decide) (by decide)) wd_615 wd_616 d_Q_kill_130 (Nat.le_of_ble_eq_true rfl) (fun z => absurd z (by decide)) (fun z => absurd z (by decide)) (fun z => absurd z (by decide)) (c_Integer_bitCount e26) rfl ?_
        refine g_st [.int x27] rfl ?_
        refine g_goto (pc := 133) 137 d_Q_kill_133 (by decide) ?_
        obtain ⟨rfl, rfl⟩ := ret2 hf
        exact g_iret (pc := 137) rfl d_Q_kill_137
  · replace hf := (if_neg c38).symm.trans hf
    refine g_iload_n (pc := 59) 3 d_Q_kill_59 rfl rfl ?_
    refine g_bipush (pc := 60) ((-4) : Int32) d_Q_kill_60 (by decide) ?_
    refine g_icmpeq (pc := 62) 77 d_Q_kill_62 (by decide) (fun c37 => ?_) (fun c37 => ?_)
    · replace hf := (if_pos c37).symm.trans hf
      refine g_lv [0, 1, 2, 3, 4] rfl ?_
      exact t_Q_kill_77 rec45 hrec45 _ _ _ _ _ _ _ _  hf
    · replace hf := (if_neg c37).symm.trans hf
      refine g_iload (pc := 65) 4 d_Q_kill_65 rfl ?_
      obtain ⟨x32, h30, e31, hf⟩ := bd2_e hf
      refine g_callS (pc := 67) [.int b4] (site_of si_Integer_bitCount (by decide) (by decide)) wd_615 wd_616 d_Q_kill_67 (Nat.le_of_ble_eq_true rfl) (fun z => absurd z (by decide)) (fun z => absurd z (by decide)) (fun z => absurd z (by decide)) (c_Integer_bitCount e31) rfl ?_
      refine g_st [.int x32] rfl ?_
      refine g_iload_n (pc := 70) 3 d_Q_kill_70 rfl rfl ?_
      obtain ⟨x35, h33, e34, hf⟩ := bd2_e hf
      refine g_callS (pc := 71) [.int b3] (site_of si_Integer_bitCount (by decide) (by decide)) wd_615 wd_616 d_Q_kill_71 (Nat.le_of_ble_eq_true rfl) (fun z => absurd z (by decide)) (fun z => absurd z (by decide)) (fun z => absurd z (by decide)) (c_Integer_bitCount e34) rfl ?_
      refine g_st [.int x35, .int x32] rfl ?_
      refine g_icmpge (pc := 74) 81 d_Q_kill_74 (by decide) (fun c36 => ?_) (fun c36 => ?_)
      · replace hf := (if_pos c36).symm.trans hf
        refine g_iconst (pc := 81) (0 : Int32) d_Q_kill_81 (by decide) ?_
        refine g_lv [0, 1, 2, 3, 4] rfl ?_
        exact t_Q_kill_82 rec45 hrec45 _ _ _ _ _ _ _ _ _  hf
      · replace hf := (if_neg c36).symm.trans hf
        refine g_lv [0, 1, 2, 3, 4] rfl ?_
        exact t_Q_kill_77 rec45 hrec45 _ _ _ _ _ _ _ _  hf
def f_Q_kill_45  : Nat → Nat → Int32 → Int32 → Int32 → Int32 → mH → Option (Int32 × mH)
  | 0 => fun _ _ _ _ _ _ => none
  | n + 1 => f_Q_kill_45b  (f_Q_kill_45  n)
theorem t_Q_kill_45 {sc : Nat × (Nat → Int32)}  : ∀ (n : Nat) (b0 : Nat) (b1 : Int32) (b2 : Int32) (b3 : Int32) (b4 : Int32) (h : mH) (r : Int32) (h' : mH) (hf : f_Q_kill_45  n b0 b1 b2 b3 b4 h = some (r, h')), G sc y_Q_kill prog_1_method_25_code 6 (some .int) 4 91 45 [(0, .ref b0), (1, .int b1), (2, .int b2), (3, .int b3), (4, .int b4)] [] h (some (.int r)) h'
  | 0, _, _, _, _, _, _, _, _, hf => by cases hf
  | n + 1, _, _, _, _, _, _, _, _, hf => t_Q_kill_45b  (f_Q_kill_45  n) (t_Q_kill_45  n) _ _ _ _ _ _ _ _ hf
def f_Q_kill_20   (h : mH) : Option (Int32 × mH) :=
  some (((-1) : Int32), h)
set_option maxRecDepth 20000 in
theorem t_Q_kill_20 {sc : Nat × (Nat → Int32)}   (h : mH) (r : Int32) (h' : mH) (hf : f_Q_kill_20   h = some (r, h')) : G sc y_Q_kill prog_1_method_25_code 6 (some .int) 4 91 20 [] [] h (some (.int r)) h' := by
  unfold f_Q_kill_20 at hf
  refine g_iconst (pc := 20) ((-1) : Int32) d_Q_kill_20 (by decide) ?_
  obtain ⟨rfl, rfl⟩ := ret2 hf
  exact g_iret (pc := 21) rfl d_Q_kill_21
def f_Q_kill_0  (a0 : Nat) (a1 : Int32) (a2 : Int32) (h : mH) : Option (Int32 × mH) :=
  bd1 (gR h a0 0 1) fun x1 =>
  bd1 (kC h x1 4) fun _ =>
  bd2 (f_Realm_hasLaw x1 a1 h) fun x7 h5 =>
  if x7 = 0 then
    f_Q_kill_20  h5
  else
    bd2 (f_Q_isWithin a2 (0 : Int32) (1 : Int32) h5) fun x10 h8 =>
    if x10 = 0 then
      f_Q_kill_20  h8
    else
      bd1 (gR h8 a0 0 1) fun x11 =>
      bd1 (gI h8 x11 4 4) fun x13 =>
      bd2 (f_Q_hasBit x13 a1 h8) fun x17 h15 =>
      if x17 = 0 then
        some (((-2) : Int32), h15)
      else
        f_Q_kill_45  FU a0 a1 a2 ((-4) : Int32) (0 : Int32) h15
set_option maxRecDepth 20000 in
theorem t_Q_kill_0 {sc : Nat × (Nat → Int32)}  (a0 : Nat) (a1 : Int32) (a2 : Int32) (h : mH) (r : Int32) (h' : mH) (hf : f_Q_kill_0  a0 a1 a2 h = some (r, h')) : G sc y_Q_kill prog_1_method_25_code 6 (some .int) 4 91 0 [(0, .ref a0), (1, .int a1), (2, .int a2)] [] h (some (.int r)) h' := by
  unfold f_Q_kill_0 at hf
  refine g_aload_n (pc := 0) 0 d_Q_kill_0 rfl rfl ?_
  obtain ⟨x1, e2, hf⟩ := bd1_e hf
  refine g_get (pc := 1) (ci := 0) (kk := 1) d_Q_kill_1 rfl in_Q (by decide) wd_297 (gR_spec e2) ?_
  refine g_iload_n (pc := 4) 1 d_Q_kill_4 rfl rfl ?_
  obtain ⟨u4, e3, hf⟩ := bd1_e hf
  obtain ⟨x7, h5, e6, hf⟩ := bd2_e hf
  refine g_callV (pc := 5) (ci := 4) [.int a1] (site_of si_Realm_hasLaw (by decide) (by decide)) wd_519 wd_488 wd_489 d_Q_kill_5 rfl e3 (Nat.le_of_ble_eq_true rfl) (fun z => absurd z (by decide)) (fun z => absurd z (by decide)) (fun z => absurd z (by decide)) (c_Realm_hasLaw e6) rfl ?_
  refine g_st [.int x7] rfl ?_
  refine g_ifeq (pc := 8) 20 d_Q_kill_8 (by decide) (fun c20 => ?_) (fun c20 => ?_)
  · replace hf := (if_pos c20).symm.trans hf
    refine g_lv [] rfl ?_
    exact t_Q_kill_20  _ _ _  hf
  · replace hf := (if_neg c20).symm.trans hf
    refine g_iload_n (pc := 11) 2 d_Q_kill_11 rfl rfl ?_
    refine g_iconst (pc := 12) (0 : Int32) d_Q_kill_12 (by decide) ?_
    refine g_iconst (pc := 13) (1 : Int32) d_Q_kill_13 (by decide) ?_
    obtain ⟨x10, h8, e9, hf⟩ := bd2_e hf
    refine g_callS (pc := 14) [.int a2, .int (0 : Int32), .int (1 : Int32)] (site_of si_Q_isWithin (by decide) (by decide)) wd_331 wd_332 d_Q_kill_14 (Nat.le_of_ble_eq_true rfl) (fun z => absurd z (by decide)) (fun z => absurd z (by decide)) (fun z => absurd z (by decide)) (c_Q_isWithin e9) rfl ?_
    refine g_st [.int x10] rfl ?_
    refine g_ifne (pc := 17) 22 d_Q_kill_17 (by decide) (fun c19 => ?_) (fun c19 => ?_)
    · replace hf := (if_neg c19).symm.trans hf
      refine g_aload_n (pc := 22) 0 d_Q_kill_22 rfl rfl ?_
      obtain ⟨x11, e12, hf⟩ := bd1_e hf
      refine g_get (pc := 23) (ci := 0) (kk := 1) d_Q_kill_23 rfl in_Q (by decide) wd_297 (gR_spec e12) ?_
      obtain ⟨x13, e14, hf⟩ := bd1_e hf
      refine g_get (pc := 26) (ci := 4) (kk := 4) d_Q_kill_26 rfl in_Realm (by decide) wd_109 (gI_spec e14) ?_
      refine g_iload_n (pc := 29) 1 d_Q_kill_29 rfl rfl ?_
      obtain ⟨x17, h15, e16, hf⟩ := bd2_e hf
      refine g_callS (pc := 30) [.int x13, .int a1] (site_of si_Q_hasBit (by decide) (by decide)) wd_614 wd_469 d_Q_kill_30 (Nat.le_of_ble_eq_true rfl) (fun z => absurd z (by decide)) (fun z => absurd z (by decide)) (fun z => absurd z (by decide)) (c_Q_hasBit e16) rfl ?_
      refine g_st [.int x17] rfl ?_
      refine g_ifne (pc := 33) 39 d_Q_kill_33 (by decide) (fun c18 => ?_) (fun c18 => ?_)
      · replace hf := (if_neg c18).symm.trans hf
        refine g_bipush (pc := 39) ((-4) : Int32) d_Q_kill_39 (by decide) ?_
        refine g_istore_n (pc := 41) [(3, .int ((-4) : Int32)), (0, .ref a0), (1, .int a1), (2, .int a2)] d_Q_kill_41 rfl (Nat.le_of_ble_eq_true rfl) rfl ?_
        refine g_iconst (pc := 42) (0 : Int32) d_Q_kill_42 (by decide) ?_
        refine g_istore (pc := 43) [(4, .int (0 : Int32)), (3, .int ((-4) : Int32)), (0, .ref a0), (1, .int a1), (2, .int a2)] d_Q_kill_43 (Nat.le_of_ble_eq_true rfl) rfl ?_
        refine g_lv [2, 3, 4, 1, 0] rfl ?_
        exact t_Q_kill_45  FU _ _ _ _ _ _ _ _  hf
      · replace hf := (if_pos c18).symm.trans hf
        refine g_bipush (pc := 36) ((-2) : Int32) d_Q_kill_36 (by decide) ?_
        obtain ⟨rfl, rfl⟩ := ret2 hf
        exact g_iret (pc := 38) rfl d_Q_kill_38
    · replace hf := (if_pos c19).symm.trans hf
      refine g_lv [] rfl ?_
      exact t_Q_kill_20  _ _ _  hf
def f_Q_kill (a0 : Nat) (a1 : Int32) (a2 : Int32) (h : mH) : Option (Int32 × mH) := f_Q_kill_0 a0 a1 a2 h
theorem c_Q_kill {sc : Nat × (Nat → Int32)} {a0 : Nat} {a1 : Int32} {a2 : Int32} {h : mH} {r : Int32} {h' : mH} (hf : f_Q_kill a0 a1 a2 h = some (r, h')) : MM sc y_Q_kill prog_1_method_25_code 6 (some .int) 4 91 [.ref a0, .int a1, .int a2] h (some (.int r)) h' :=
  mm_of_G (by decide) (Nat.le_of_ble_eq_true rfl) (t_Q_kill_0 _ _ _ _ _ _ hf)
/-! Realm mostNeeded (I)I -/
set_option maxRecDepth 100000 in
theorem dd_Realm_mostNeeded_0 : (decode prog_5_method_25_code 0 = .ok (.aload_n 0, 1)) ∧ (decode prog_5_method_25_code 1 = .ok (.iload_n 1, 1)) ∧ (decode prog_5_method_25_code 2 = .ok (.invokevirtual 148, 3)) ∧ (decode prog_5_method_25_code 5 = .ok (.aload_n 0, 1)) ∧ (decode prog_5_method_25_code 6 = .ok (.getfield 42, 3)) ∧ (decode prog_5_method_25_code 9 = .ok (.iload_n 1, 1)) ∧ (decode prog_5_method_25_code 10 = .ok (.iaload, 1)) ∧ (decode prog_5_method_25_code 11 = .ok (.iand, 1)) ∧ (decode prog_5_method_25_code 12 = .ok (.istore_n 2, 1)) ∧ (decode prog_5_method_25_code 13 = .ok (.bipush (-4), 2)) ∧ (decode prog_5_method_25_code 15 = .ok (.istore_n 3, 1)) ∧ (decode prog_5_method_25_code 16 = .ok (.iconst 0, 1)) ∧ (decode prog_5_method_25_code 17 = .ok (.istore 4, 2)) ∧ (decode prog_5_method_25_code 19 = .ok (.iconst 0, 1)) ∧ (decode prog_5_method_25_code 20 = .ok (.istore 5, 2)) ∧ (decode prog_5_method_25_code 22 = .ok (.iload 5, 2)) ∧ (decode prog_5_method_25_code 24 = .ok (.aload_n 0, 1)) ∧ (decode prog_5_method_25_code 25 = .ok (.getfield 55, 3)) ∧ (decode prog_5_method_25_code 28 = .ok (.if_icmp .ge 40, 3)) ∧ (decode prog_5_method_25_code 31 = .ok (.iload_n 2, 1)) ∧ (decode prog_5_method_25_code 32 = .ok (.iload 5, 2)) ∧ (decode prog_5_method_25_code 34 = .ok (.invokestatic 104, 3)) ∧ (decode prog_5_method_25_code 37 = .ok (.ifCond .eq 25, 3)) ∧ (decode prog_5_method_25_code 40 = .ok (.aload_n 0, 1)) := by
  have h : List.drop 0 prog_5_method_25_code.data.toList = 0x2a :: _ := rfl
  refine ⟨zq_k_n 42 h rfl (zq_o_42 _), ?_⟩
  replace h := zq_nx1 (q := 1) h rfl
  refine ⟨zq_k_n 27 h rfl (zq_o_27 _), ?_⟩
  replace h := zq_nx1 (q := 2) h rfl
  refine ⟨zq_k_u2 182 (fun z => .invokevirtual z) 148 h rfl (zq_o_182 _) (by decide +kernel), ?_⟩
  replace h := zq_nx3 (q := 5) h rfl
  refine ⟨zq_k_n 42 h rfl (zq_o_42 _), ?_⟩
  replace h := zq_nx1 (q := 6) h rfl
  refine ⟨zq_k_u2 180 (fun z => .getfield z) 42 h rfl (zq_o_180 _) (by decide +kernel), ?_⟩
  replace h := zq_nx3 (q := 9) h rfl
  refine ⟨zq_k_n 27 h rfl (zq_o_27 _), ?_⟩
  replace h := zq_nx1 (q := 10) h rfl
  refine ⟨zq_k_n 46 h rfl (zq_o_46 _), ?_⟩
  replace h := zq_nx1 (q := 11) h rfl
  refine ⟨zq_k_n 126 h rfl (zq_o_126 _), ?_⟩
  replace h := zq_nx1 (q := 12) h rfl
  refine ⟨zq_k_n 61 h rfl (zq_o_61 _), ?_⟩
  replace h := zq_nx1 (q := 13) h rfl
  refine ⟨zq_k_s1 16 (fun z => .bipush z) (-4) h rfl (zq_o_16 _) (by decide +kernel), ?_⟩
  replace h := zq_nx2 (q := 15) h rfl
  refine ⟨zq_k_n 62 h rfl (zq_o_62 _), ?_⟩
  replace h := zq_nx1 (q := 16) h rfl
  refine ⟨zq_k_n 3 h rfl (zq_o_3 _), ?_⟩
  replace h := zq_nx1 (q := 17) h rfl
  refine ⟨zq_k_u1 54 (fun z => .istore z) 4 h rfl (zq_o_54 _) (by decide +kernel), ?_⟩
  replace h := zq_nx2 (q := 19) h rfl
  refine ⟨zq_k_n 3 h rfl (zq_o_3 _), ?_⟩
  replace h := zq_nx1 (q := 20) h rfl
  refine ⟨zq_k_u1 54 (fun z => .istore z) 5 h rfl (zq_o_54 _) (by decide +kernel), ?_⟩
  replace h := zq_nx2 (q := 22) h rfl
  refine ⟨zq_k_u1 21 (fun z => .iload z) 5 h rfl (zq_o_21 _) (by decide +kernel), ?_⟩
  replace h := zq_nx2 (q := 24) h rfl
  refine ⟨zq_k_n 42 h rfl (zq_o_42 _), ?_⟩
  replace h := zq_nx1 (q := 25) h rfl
  refine ⟨zq_k_u2 180 (fun z => .getfield z) 55 h rfl (zq_o_180 _) (by decide +kernel), ?_⟩
  replace h := zq_nx3 (q := 28) h rfl
  refine ⟨zq_k_s2 162 (fun z => .if_icmp .ge z) 40 h rfl (zq_o_162 _) (by decide +kernel), ?_⟩
  replace h := zq_nx3 (q := 31) h rfl
  refine ⟨zq_k_n 28 h rfl (zq_o_28 _), ?_⟩
  replace h := zq_nx1 (q := 32) h rfl
  refine ⟨zq_k_u1 21 (fun z => .iload z) 5 h rfl (zq_o_21 _) (by decide +kernel), ?_⟩
  replace h := zq_nx2 (q := 34) h rfl
  refine ⟨zq_k_u2 184 (fun z => .invokestatic z) 104 h rfl (zq_o_184 _) (by decide +kernel), ?_⟩
  replace h := zq_nx3 (q := 37) h rfl
  refine ⟨zq_k_s2 153 (fun z => .ifCond .eq z) 25 h rfl (zq_o_153 _) (by decide +kernel), ?_⟩
  replace h := zq_nx3 (q := 40) h rfl
  exact zq_k_n 42 h rfl (zq_o_42 _)
theorem d_Realm_mostNeeded_0 : decode prog_5_method_25_code 0 = .ok (.aload_n 0, 1) := dd_Realm_mostNeeded_0.1
theorem d_Realm_mostNeeded_1 : decode prog_5_method_25_code 1 = .ok (.iload_n 1, 1) := dd_Realm_mostNeeded_0.2.1
theorem d_Realm_mostNeeded_2 : decode prog_5_method_25_code 2 = .ok (.invokevirtual 148, 3) := dd_Realm_mostNeeded_0.2.2.1
theorem d_Realm_mostNeeded_5 : decode prog_5_method_25_code 5 = .ok (.aload_n 0, 1) := dd_Realm_mostNeeded_0.2.2.2.1
theorem d_Realm_mostNeeded_6 : decode prog_5_method_25_code 6 = .ok (.getfield 42, 3) := dd_Realm_mostNeeded_0.2.2.2.2.1
theorem d_Realm_mostNeeded_9 : decode prog_5_method_25_code 9 = .ok (.iload_n 1, 1) := dd_Realm_mostNeeded_0.2.2.2.2.2.1
theorem d_Realm_mostNeeded_10 : decode prog_5_method_25_code 10 = .ok (.iaload, 1) := dd_Realm_mostNeeded_0.2.2.2.2.2.2.1
theorem d_Realm_mostNeeded_11 : decode prog_5_method_25_code 11 = .ok (.iand, 1) := dd_Realm_mostNeeded_0.2.2.2.2.2.2.2.1
theorem d_Realm_mostNeeded_12 : decode prog_5_method_25_code 12 = .ok (.istore_n 2, 1) := dd_Realm_mostNeeded_0.2.2.2.2.2.2.2.2.1
theorem d_Realm_mostNeeded_13 : decode prog_5_method_25_code 13 = .ok (.bipush (-4), 2) := dd_Realm_mostNeeded_0.2.2.2.2.2.2.2.2.2.1
theorem d_Realm_mostNeeded_15 : decode prog_5_method_25_code 15 = .ok (.istore_n 3, 1) := dd_Realm_mostNeeded_0.2.2.2.2.2.2.2.2.2.2.1
theorem d_Realm_mostNeeded_16 : decode prog_5_method_25_code 16 = .ok (.iconst 0, 1) := dd_Realm_mostNeeded_0.2.2.2.2.2.2.2.2.2.2.2.1
theorem d_Realm_mostNeeded_17 : decode prog_5_method_25_code 17 = .ok (.istore 4, 2) := dd_Realm_mostNeeded_0.2.2.2.2.2.2.2.2.2.2.2.2.1
theorem d_Realm_mostNeeded_19 : decode prog_5_method_25_code 19 = .ok (.iconst 0, 1) := dd_Realm_mostNeeded_0.2.2.2.2.2.2.2.2.2.2.2.2.2.1
theorem d_Realm_mostNeeded_20 : decode prog_5_method_25_code 20 = .ok (.istore 5, 2) := dd_Realm_mostNeeded_0.2.2.2.2.2.2.2.2.2.2.2.2.2.2.1
theorem d_Realm_mostNeeded_22 : decode prog_5_method_25_code 22 = .ok (.iload 5, 2) := dd_Realm_mostNeeded_0.2.2.2.2.2.2.2.2.2.2.2.2.2.2.2.1
theorem d_Realm_mostNeeded_24 : decode prog_5_method_25_code 24 = .ok (.aload_n 0, 1) := dd_Realm_mostNeeded_0.2.2.2.2.2.2.2.2.2.2.2.2.2.2.2.2.1
theorem d_Realm_mostNeeded_25 : decode prog_5_method_25_code 25 = .ok (.getfield 55, 3) := dd_Realm_mostNeeded_0.2.2.2.2.2.2.2.2.2.2.2.2.2.2.2.2.2.1
theorem d_Realm_mostNeeded_28 : decode prog_5_method_25_code 28 = .ok (.if_icmp .ge 40, 3) := dd_Realm_mostNeeded_0.2.2.2.2.2.2.2.2.2.2.2.2.2.2.2.2.2.2.1
theorem d_Realm_mostNeeded_31 : decode prog_5_method_25_code 31 = .ok (.iload_n 2, 1) := dd_Realm_mostNeeded_0.2.2.2.2.2.2.2.2.2.2.2.2.2.2.2.2.2.2.2.1
theorem d_Realm_mostNeeded_32 : decode prog_5_method_25_code 32 = .ok (.iload 5, 2) := dd_Realm_mostNeeded_0.2.2.2.2.2.2.2.2.2.2.2.2.2.2.2.2.2.2.2.2.1
theorem d_Realm_mostNeeded_34 : decode prog_5_method_25_code 34 = .ok (.invokestatic 104, 3) := dd_Realm_mostNeeded_0.2.2.2.2.2.2.2.2.2.2.2.2.2.2.2.2.2.2.2.2.2.1
theorem d_Realm_mostNeeded_37 : decode prog_5_method_25_code 37 = .ok (.ifCond .eq 25, 3) := dd_Realm_mostNeeded_0.2.2.2.2.2.2.2.2.2.2.2.2.2.2.2.2.2.2.2.2.2.2.1
theorem d_Realm_mostNeeded_40 : decode prog_5_method_25_code 40 = .ok (.aload_n 0, 1) := dd_Realm_mostNeeded_0.2.2.2.2.2.2.2.2.2.2.2.2.2.2.2.2.2.2.2.2.2.2.2
set_option maxRecDepth 100000 in
theorem dd_Realm_mostNeeded_41 : (decode prog_5_method_25_code 41 = .ok (.iload 5, 2)) ∧ (decode prog_5_method_25_code 43 = .ok (.invokevirtual 117, 3)) ∧ (decode prog_5_method_25_code 46 = .ok (.iload 4, 2)) ∧ (decode prog_5_method_25_code 48 = .ok (.if_icmp .le 14, 3)) ∧ (decode prog_5_method_25_code 51 = .ok (.iload 5, 2)) ∧ (decode prog_5_method_25_code 53 = .ok (.istore_n 3, 1)) ∧ (decode prog_5_method_25_code 54 = .ok (.aload_n 0, 1)) ∧ (decode prog_5_method_25_code 55 = .ok (.iload 5, 2)) ∧ (decode prog_5_method_25_code 57 = .ok (.invokevirtual 117, 3)) ∧ (decode prog_5_method_25_code 60 = .ok (.istore 4, 2)) ∧ (decode prog_5_method_25_code 62 = .ok (.iinc 5 1, 3)) ∧ (decode prog_5_method_25_code 65 = .ok (.goto (-43), 3)) ∧ (decode prog_5_method_25_code 68 = .ok (.iload_n 3, 1)) ∧ (decode prog_5_method_25_code 69 = .ok (.ireturn, 1)) := by
  have h : List.drop 41 prog_5_method_25_code.data.toList = 0x15 :: _ := rfl
  refine ⟨zq_k_u1 21 (fun z => .iload z) 5 h rfl (zq_o_21 _) (by decide +kernel), ?_⟩
  replace h := zq_nx2 (q := 43) h rfl
  refine ⟨zq_k_u2 182 (fun z => .invokevirtual z) 117 h rfl (zq_o_182 _) (by decide +kernel), ?_⟩
  replace h := zq_nx3 (q := 46) h rfl
  refine ⟨zq_k_u1 21 (fun z => .iload z) 4 h rfl (zq_o_21 _) (by decide +kernel), ?_⟩
  replace h := zq_nx2 (q := 48) h rfl
  refine ⟨zq_k_s2 164 (fun z => .if_icmp .le z) 14 h rfl (zq_o_164 _) (by decide +kernel), ?_⟩
  replace h := zq_nx3 (q := 51) h rfl
  refine ⟨zq_k_u1 21 (fun z => .iload z) 5 h rfl (zq_o_21 _) (by decide +kernel), ?_⟩
  replace h := zq_nx2 (q := 53) h rfl
  refine ⟨zq_k_n 62 h rfl (zq_o_62 _), ?_⟩
  replace h := zq_nx1 (q := 54) h rfl
  refine ⟨zq_k_n 42 h rfl (zq_o_42 _), ?_⟩
  replace h := zq_nx1 (q := 55) h rfl
  refine ⟨zq_k_u1 21 (fun z => .iload z) 5 h rfl (zq_o_21 _) (by decide +kernel), ?_⟩
  replace h := zq_nx2 (q := 57) h rfl
  refine ⟨zq_k_u2 182 (fun z => .invokevirtual z) 117 h rfl (zq_o_182 _) (by decide +kernel), ?_⟩
  replace h := zq_nx3 (q := 60) h rfl
  refine ⟨zq_k_u1 54 (fun z => .istore z) 4 h rfl (zq_o_54 _) (by decide +kernel), ?_⟩
  replace h := zq_nx2 (q := 62) h rfl
  refine ⟨zq_k_iinc 5 1 h rfl (zq_o_132 _) (by decide +kernel) (by decide +kernel), ?_⟩
  replace h := zq_nx3 (q := 65) h rfl
  refine ⟨zq_k_s2 167 (fun z => .goto z) (-43) h rfl (zq_o_167 _) (by decide +kernel), ?_⟩
  replace h := zq_nx3 (q := 68) h rfl
  refine ⟨zq_k_n 29 h rfl (zq_o_29 _), ?_⟩
  replace h := zq_nx1 (q := 69) h rfl
  exact zq_k_n 172 h rfl (zq_o_172 _)
theorem d_Realm_mostNeeded_41 : decode prog_5_method_25_code 41 = .ok (.iload 5, 2) := dd_Realm_mostNeeded_41.1
theorem d_Realm_mostNeeded_43 : decode prog_5_method_25_code 43 = .ok (.invokevirtual 117, 3) := dd_Realm_mostNeeded_41.2.1
theorem d_Realm_mostNeeded_46 : decode prog_5_method_25_code 46 = .ok (.iload 4, 2) := dd_Realm_mostNeeded_41.2.2.1
theorem d_Realm_mostNeeded_48 : decode prog_5_method_25_code 48 = .ok (.if_icmp .le 14, 3) := dd_Realm_mostNeeded_41.2.2.2.1
theorem d_Realm_mostNeeded_51 : decode prog_5_method_25_code 51 = .ok (.iload 5, 2) := dd_Realm_mostNeeded_41.2.2.2.2.1
theorem d_Realm_mostNeeded_53 : decode prog_5_method_25_code 53 = .ok (.istore_n 3, 1) := dd_Realm_mostNeeded_41.2.2.2.2.2.1
theorem d_Realm_mostNeeded_54 : decode prog_5_method_25_code 54 = .ok (.aload_n 0, 1) := dd_Realm_mostNeeded_41.2.2.2.2.2.2.1
theorem d_Realm_mostNeeded_55 : decode prog_5_method_25_code 55 = .ok (.iload 5, 2) := dd_Realm_mostNeeded_41.2.2.2.2.2.2.2.1
theorem d_Realm_mostNeeded_57 : decode prog_5_method_25_code 57 = .ok (.invokevirtual 117, 3) := dd_Realm_mostNeeded_41.2.2.2.2.2.2.2.2.1
theorem d_Realm_mostNeeded_60 : decode prog_5_method_25_code 60 = .ok (.istore 4, 2) := dd_Realm_mostNeeded_41.2.2.2.2.2.2.2.2.2.1
theorem d_Realm_mostNeeded_62 : decode prog_5_method_25_code 62 = .ok (.iinc 5 1, 3) := dd_Realm_mostNeeded_41.2.2.2.2.2.2.2.2.2.2.1
theorem d_Realm_mostNeeded_65 : decode prog_5_method_25_code 65 = .ok (.goto (-43), 3) := dd_Realm_mostNeeded_41.2.2.2.2.2.2.2.2.2.2.2.1
theorem d_Realm_mostNeeded_68 : decode prog_5_method_25_code 68 = .ok (.iload_n 3, 1) := dd_Realm_mostNeeded_41.2.2.2.2.2.2.2.2.2.2.2.2.1
theorem d_Realm_mostNeeded_69 : decode prog_5_method_25_code 69 = .ok (.ireturn, 1) := dd_Realm_mostNeeded_41.2.2.2.2.2.2.2.2.2.2.2.2.2
def f_Realm_mostNeeded_62 (rec22 : Nat → Int32 → Int32 → Int32 → Int32 → mH → Option (Int32 × mH)) (b0 : Nat) (b2 : Int32) (b3 : Int32) (b4 : Int32) (b5 : Int32) (h : mH) : Option (Int32 × mH) :=
  rec22 b0 b2 b3 b4 (b5 + (1 : Int32)) h
set_option maxRecDepth 20000 in
theorem t_Realm_mostNeeded_62 {sc : Nat × (Nat → Int32)} (rec22 : Nat → Int32 → Int32 → Int32 → Int32 → mH → Option (Int32 × mH)) (hrec22 : ∀ (b0 : Nat) (b2 : Int32) (b3 : Int32) (b4 : Int32) (b5 : Int32) (h : mH) (r : Int32) (h' : mH), rec22 b0 b2 b3 b4 b5 h = some (r, h') → G sc y_Realm_mostNeeded prog_5_method_25_code 6 (some .int) 4 90 22 [(0, .ref b0), (2, .int b2), (3, .int b3), (4, .int b4), (5, .int b5)] [] h (some (.int r)) h') (b0 : Nat) (b2 : Int32) (b3 : Int32) (b4 : Int32) (b5 : Int32) (h : mH) (r : Int32) (h' : mH) (hf : f_Realm_mostNeeded_62 rec22 b0 b2 b3 b4 b5 h = some (r, h')) : G sc y_Realm_mostNeeded prog_5_method_25_code 6 (some .int) 4 90 62 [(0, .ref b0), (2, .int b2), (3, .int b3), (4, .int b4), (5, .int b5)] [] h (some (.int r)) h' := by
  unfold f_Realm_mostNeeded_62 at hf
  refine g_iinc (pc := 62) 4 (b5 + (1 : Int32)) [(5, .int (b5 + (1 : Int32))), (0, .ref b0), (2, .int b2), (3, .int b3), (4, .int b4)] d_Realm_mostNeeded_62 rfl rfl (Nat.le_of_ble_eq_true rfl) rfl ?_
  refine g_goto (pc := 65) 22 d_Realm_mostNeeded_65 (by decide) ?_
  refine g_lv [1, 2, 3, 4, 0] rfl ?_
  exact hrec22 _ _ _ _ _ _ _ _  hf
def f_Realm_mostNeeded_22b (rec22 : Nat → Int32 → Int32 → Int32 → Int32 → mH → Option (Int32 × mH)) (b0 : Nat) (b2 : Int32) (b3 : Int32) (b4 : Int32) (b5 : Int32) (h : mH) : Option (Int32 × mH) :=
  bd1 (gI h b0 4 0) fun x10 =>
  if x10 ≤ b5 then
    some (b3, h)
  else
    bd2 (f_Q_hasBit b2 b5 h) fun x14 h12 =>
    if x14 = 0 then
      f_Realm_mostNeeded_62 rec22 b0 b2 b3 b4 b5 h12
    else
      bd1 (kC h12 b0 4) fun _ =>
      bd2 (f_Realm_needOf b0 b5 h12) fun x19 h17 =>
      if x19 ≤ b4 then
        f_Realm_mostNeeded_62 rec22 b0 b2 b3 b4 b5 h17
      else
        bd1 (kC h17 b0 4) fun _ =>
        bd2 (f_Realm_needOf b0 b5 h17) fun x24 h22 =>
        f_Realm_mostNeeded_62 rec22 b0 b2 b5 x24 b5 h22
set_option maxRecDepth 20000 in
theorem t_Realm_mostNeeded_22b {sc : Nat × (Nat → Int32)} (rec22 : Nat → Int32 → Int32 → Int32 → Int32 → mH → Option (Int32 × mH)) (hrec22 : ∀ (b0 : Nat) (b2 : Int32) (b3 : Int32) (b4 : Int32) (b5 : Int32) (h : mH) (r : Int32) (h' : mH), rec22 b0 b2 b3 b4 b5 h = some (r, h') → G sc y_Realm_mostNeeded prog_5_method_25_code 6 (some .int) 4 90 22 [(0, .ref b0), (2, .int b2), (3, .int b3), (4, .int b4), (5, .int b5)] [] h (some (.int r)) h') (b0 : Nat) (b2 : Int32) (b3 : Int32) (b4 : Int32) (b5 : Int32) (h : mH) (r : Int32) (h' : mH) (hf : f_Realm_mostNeeded_22b rec22 b0 b2 b3 b4 b5 h = some (r, h')) : G sc y_Realm_mostNeeded prog_5_method_25_code 6 (some .int) 4 90 22 [(0, .ref b0), (2, .int b2), (3, .int b3), (4, .int b4), (5, .int b5)] [] h (some (.int r)) h' := by
  unfold f_Realm_mostNeeded_22b at hf
  refine g_iload (pc := 22) 4 d_Realm_mostNeeded_22 rfl ?_
  refine g_aload_n (pc := 24) 0 d_Realm_mostNeeded_24 rfl rfl ?_
  obtain ⟨x10, e11, hf⟩ := bd1_e hf
  refine g_get (pc := 25) (ci := 4) (kk := 0) d_Realm_mostNeeded_25 rfl in_Realm (by decide) wd_93 (gI_spec e11) ?_
  refine g_icmpge (pc := 28) 68 d_Realm_mostNeeded_28 (by decide) (fun c27 => ?_) (fun c27 => ?_)
  · replace hf := (if_pos c27).symm.trans hf
    refine g_iload_n (pc := 68) 2 d_Realm_mostNeeded_68 rfl rfl ?_
    obtain ⟨rfl, rfl⟩ := ret2 hf
    exact g_iret (pc := 69) rfl d_Realm_mostNeeded_69
  · replace hf := (if_neg c27).symm.trans hf
    refine g_iload_n (pc := 31) 1 d_Realm_mostNeeded_31 rfl rfl ?_
    refine g_iload (pc := 32) 4 d_Realm_mostNeeded_32 rfl ?_
    obtain ⟨x14, h12, e13, hf⟩ := bd2_e hf
    refine g_callSN (pc := 34) "QuotaLaws" [.int b2, .int b5] (site_of si_Q_hasBit (by decide) (by decide)) wd_524 wd_469 d_Realm_mostNeeded_34 (Nat.le_of_ble_eq_true rfl) (fun z => absurd z (by decide)) (fun z => absurd z (by decide)) (fun z => absurd z (by decide)) (c_Q_hasBit e13) rfl ?_
    refine g_st [.int x14] rfl ?_
    refine g_ifeq (pc := 37) 62 d_Realm_mostNeeded_37 (by decide) (fun c26 => ?_) (fun c26 => ?_)
    · replace hf := (if_pos c26).symm.trans hf
      refine g_lv [0, 1, 2, 3, 4] rfl ?_
      exact t_Realm_mostNeeded_62 rec22 hrec22 _ _ _ _ _ _ _ _  hf
    · replace hf := (if_neg c26).symm.trans hf
      refine g_aload_n (pc := 40) 0 d_Realm_mostNeeded_40 rfl rfl ?_
      refine g_iload (pc := 41) 4 d_Realm_mostNeeded_41 rfl ?_
      obtain ⟨u16, e15, hf⟩ := bd1_e hf
      obtain ⟨x19, h17, e18, hf⟩ := bd2_e hf
      refine g_callV (pc := 43) (ci := 4) [.int b5] (site_of si_Realm_needOf (by decide) (by decide)) wd_646 wd_521 wd_522 d_Realm_mostNeeded_43 rfl e15 (Nat.le_of_ble_eq_true rfl) (fun z => absurd z (by decide)) (fun z => absurd z (by decide)) (fun z => absurd z (by decide)) (c_Realm_needOf e18) rfl ?_
      refine g_st [.int x19] rfl ?_
      refine g_iload (pc := 46) 3 d_Realm_mostNeeded_46 rfl ?_
      refine g_icmple (pc := 48) 62 d_Realm_mostNeeded_48 (by decide) (fun c25 => ?_) (fun c25 => ?_)
      · replace hf := (if_pos c25).symm.trans hf
        refine g_lv [0, 1, 2, 3, 4] rfl ?_
        exact t_Realm_mostNeeded_62 rec22 hrec22 _ _ _ _ _ _ _ _  hf
      · replace hf := (if_neg c25).symm.trans hf
        refine g_iload (pc := 51) 4 d_Realm_mostNeeded_51 rfl ?_
        refine g_istore_n (pc := 53) [(3, .int b5), (0, .ref b0), (2, .int b2), (4, .int b4), (5, .int b5)] d_Realm_mostNeeded_53 rfl (Nat.le_of_ble_eq_true rfl) rfl ?_
        refine g_aload_n (pc := 54) 1 d_Realm_mostNeeded_54 rfl rfl ?_
        refine g_iload (pc := 55) 4 d_Realm_mostNeeded_55 rfl ?_
        obtain ⟨u21, e20, hf⟩ := bd1_e hf
        obtain ⟨x24, h22, e23, hf⟩ := bd2_e hf
        refine g_callV (pc := 57) (ci := 4) [.int b5] (site_of si_Realm_needOf (by decide) (by decide)) wd_646 wd_521 wd_522 d_Realm_mostNeeded_57 rfl e20 (Nat.le_of_ble_eq_true rfl) (fun z => absurd z (by decide)) (fun z => absurd z (by decide)) (fun z => absurd z (by decide)) (c_Realm_needOf e23) rfl ?_
        refine g_st [.int x24] rfl ?_
        refine g_istore (pc := 60) [(4, .int x24), (3, .int b5), (0, .ref b0), (2, .int b2), (5, .int b5)] d_Realm_mostNeeded_60 (Nat.le_of_ble_eq_true rfl) rfl ?_
        refine g_lv [2, 3, 1, 0, 4] rfl ?_
        exact t_Realm_mostNeeded_62 rec22 hrec22 _ _ _ _ _ _ _ _  hf
def f_Realm_mostNeeded_22  : Nat → Nat → Int32 → Int32 → Int32 → Int32 → mH → Option (Int32 × mH)
  | 0 => fun _ _ _ _ _ _ => none
  | n + 1 => f_Realm_mostNeeded_22b  (f_Realm_mostNeeded_22  n)
theorem t_Realm_mostNeeded_22 {sc : Nat × (Nat → Int32)}  : ∀ (n : Nat) (b0 : Nat) (b2 : Int32) (b3 : Int32) (b4 : Int32) (b5 : Int32) (h : mH) (r : Int32) (h' : mH) (hf : f_Realm_mostNeeded_22  n b0 b2 b3 b4 b5 h = some (r, h')), G sc y_Realm_mostNeeded prog_5_method_25_code 6 (some .int) 4 90 22 [(0, .ref b0), (2, .int b2), (3, .int b3), (4, .int b4), (5, .int b5)] [] h (some (.int r)) h'
  | 0, _, _, _, _, _, _, _, _, hf => by cases hf
  | n + 1, _, _, _, _, _, _, _, _, hf => t_Realm_mostNeeded_22b  (f_Realm_mostNeeded_22  n) (t_Realm_mostNeeded_22  n) _ _ _ _ _ _ _ _ hf
def f_Realm_mostNeeded_0  (a0 : Nat) (a1 : Int32) (h : mH) : Option (Int32 × mH) :=
  bd1 (kC h a0 4) fun _ =>
  bd2 (f_Realm_breakable a0 a1 h) fun x5 h3 =>
  bd1 (gR h3 a0 4 16) fun x6 =>
  bd1 (aI h3 0 x6 a1) fun x8 =>
  f_Realm_mostNeeded_22  FU a0 (x5 &&& x8) ((-4) : Int32) (0 : Int32) (0 : Int32) h3
set_option maxRecDepth 20000 in
theorem t_Realm_mostNeeded_0 {sc : Nat × (Nat → Int32)}  (a0 : Nat) (a1 : Int32) (h : mH) (r : Int32) (h' : mH) (hf : f_Realm_mostNeeded_0  a0 a1 h = some (r, h')) : G sc y_Realm_mostNeeded prog_5_method_25_code 6 (some .int) 4 90 0 [(0, .ref a0), (1, .int a1)] [] h (some (.int r)) h' := by
  unfold f_Realm_mostNeeded_0 at hf
  refine g_aload_n (pc := 0) 0 d_Realm_mostNeeded_0 rfl rfl ?_
  refine g_iload_n (pc := 1) 1 d_Realm_mostNeeded_1 rfl rfl ?_
  obtain ⟨u2, e1, hf⟩ := bd1_e hf
  obtain ⟨x5, h3, e4, hf⟩ := bd2_e hf
  refine g_callV (pc := 2) (ci := 4) [.int a1] (site_of si_Realm_breakable (by decide) (by decide)) wd_740 wd_547 wd_548 d_Realm_mostNeeded_2 rfl e1 (Nat.le_of_ble_eq_true rfl) (fun z => absurd z (by decide)) (fun z => absurd z (by decide)) (fun z => absurd z (by decide)) (c_Realm_breakable e4) rfl ?_
  refine g_st [.int x5] rfl ?_
  refine g_aload_n (pc := 5) 0 d_Realm_mostNeeded_5 rfl rfl ?_
  obtain ⟨x6, e7, hf⟩ := bd1_e hf
  refine g_get (pc := 6) (ci := 4) (kk := 16) d_Realm_mostNeeded_6 rfl in_Realm (by decide) wd_149 (gR_spec e7) ?_
  refine g_iload_n (pc := 9) 1 d_Realm_mostNeeded_9 rfl rfl ?_
  obtain ⟨x8, e9, hf⟩ := bd1_e hf
  refine g_iald (pc := 10) d_Realm_mostNeeded_10 e9 ?_
  refine g_iand (pc := 11) d_Realm_mostNeeded_11 ?_
  refine g_istore_n (pc := 12) [(2, .int (x5 &&& x8)), (0, .ref a0), (1, .int a1)] d_Realm_mostNeeded_12 rfl (Nat.le_of_ble_eq_true rfl) rfl ?_
  refine g_bipush (pc := 13) ((-4) : Int32) d_Realm_mostNeeded_13 (by decide) ?_
  refine g_istore_n (pc := 15) [(3, .int ((-4) : Int32)), (2, .int (x5 &&& x8)), (0, .ref a0), (1, .int a1)] d_Realm_mostNeeded_15 rfl (Nat.le_of_ble_eq_true rfl) rfl ?_
  refine g_iconst (pc := 16) (0 : Int32) d_Realm_mostNeeded_16 (by decide) ?_
  refine g_istore (pc := 17) [(4, .int (0 : Int32)), (3, .int ((-4) : Int32)), (2, .int (x5 &&& x8)), (0, .ref a0), (1, .int a1)] d_Realm_mostNeeded_17 (Nat.le_of_ble_eq_true rfl) rfl ?_
  refine g_iconst (pc := 19) (0 : Int32) d_Realm_mostNeeded_19 (by decide) ?_
  refine g_istore (pc := 20) [(5, .int (0 : Int32)), (4, .int (0 : Int32)), (3, .int ((-4) : Int32)), (2, .int (x5 &&& x8)), (0, .ref a0), (1, .int a1)] d_Realm_mostNeeded_20 (Nat.le_of_ble_eq_true rfl) rfl ?_
  refine g_lv [4, 3, 2, 1, 0] rfl ?_
  exact t_Realm_mostNeeded_22  FU _ _ _ _ _ _ _ _  hf
def f_Realm_mostNeeded (a0 : Nat) (a1 : Int32) (h : mH) : Option (Int32 × mH) := f_Realm_mostNeeded_0 a0 a1 h
theorem c_Realm_mostNeeded {sc : Nat × (Nat → Int32)} {a0 : Nat} {a1 : Int32} {h : mH} {r : Int32} {h' : mH} (hf : f_Realm_mostNeeded a0 a1 h = some (r, h')) : MM sc y_Realm_mostNeeded prog_5_method_25_code 6 (some .int) 4 90 [.ref a0, .int a1] h (some (.int r)) h' :=
  mm_of_G (by decide) (Nat.le_of_ble_eq_true rfl) (t_Realm_mostNeeded_0 _ _ _ _ _ hf)
/-! Realm eachForHimself ()I -/
set_option maxRecDepth 100000 in
theorem dd_Realm_eachForHimself_0 : (decode prog_5_method_24_code 0 = .ok (.iconst 0, 1)) ∧ (decode prog_5_method_24_code 1 = .ok (.istore_n 1, 1)) ∧ (decode prog_5_method_24_code 2 = .ok (.iconst 0, 1)) ∧ (decode prog_5_method_24_code 3 = .ok (.istore_n 2, 1)) ∧ (decode prog_5_method_24_code 4 = .ok (.iload_n 2, 1)) ∧ (decode prog_5_method_24_code 5 = .ok (.bipush 15, 2)) ∧ (decode prog_5_method_24_code 7 = .ok (.if_icmp .gt 64, 3)) ∧ (decode prog_5_method_24_code 10 = .ok (.iload_n 1, 1)) ∧ (decode prog_5_method_24_code 11 = .ok (.istore_n 3, 1)) ∧ (decode prog_5_method_24_code 12 = .ok (.iconst 0, 1)) ∧ (decode prog_5_method_24_code 13 = .ok (.istore 4, 2)) ∧ (decode prog_5_method_24_code 15 = .ok (.iload 4, 2)) ∧ (decode prog_5_method_24_code 17 = .ok (.aload_n 0, 1)) ∧ (decode prog_5_method_24_code 18 = .ok (.getfield 59, 3)) ∧ (decode prog_5_method_24_code 21 = .ok (.if_icmp .ge 36, 3)) ∧ (decode prog_5_method_24_code 24 = .ok (.aload_n 0, 1)) ∧ (decode prog_5_method_24_code 25 = .ok (.iload 4, 2)) ∧ (decode prog_5_method_24_code 27 = .ok (.invokevirtual 145, 3)) ∧ (decode prog_5_method_24_code 30 = .ok (.istore 5, 2)) ∧ (decode prog_5_method_24_code 32 = .ok (.iload 5, 2)) ∧ (decode prog_5_method_24_code 34 = .ok (.bipush (-4), 2)) ∧ (decode prog_5_method_24_code 36 = .ok (.if_icmp .eq 15, 3)) ∧ (decode prog_5_method_24_code 39 = .ok (.aload_n 0, 1)) ∧ (decode prog_5_method_24_code 40 = .ok (.iload 4, 2)) := by
  have h : List.drop 0 prog_5_method_24_code.data.toList = 0x03 :: _ := rfl
  refine ⟨zq_k_n 3 h rfl (zq_o_3 _), ?_⟩
  replace h := zq_nx1 (q := 1) h rfl
  refine ⟨zq_k_n 60 h rfl (zq_o_60 _), ?_⟩
  replace h := zq_nx1 (q := 2) h rfl
  refine ⟨zq_k_n 3 h rfl (zq_o_3 _), ?_⟩
  replace h := zq_nx1 (q := 3) h rfl
  refine ⟨zq_k_n 61 h rfl (zq_o_61 _), ?_⟩
  replace h := zq_nx1 (q := 4) h rfl
  refine ⟨zq_k_n 28 h rfl (zq_o_28 _), ?_⟩
  replace h := zq_nx1 (q := 5) h rfl
  refine ⟨zq_k_s1 16 (fun z => .bipush z) 15 h rfl (zq_o_16 _) (by decide +kernel), ?_⟩
  replace h := zq_nx2 (q := 7) h rfl
  refine ⟨zq_k_s2 163 (fun z => .if_icmp .gt z) 64 h rfl (zq_o_163 _) (by decide +kernel), ?_⟩
  replace h := zq_nx3 (q := 10) h rfl
  refine ⟨zq_k_n 27 h rfl (zq_o_27 _), ?_⟩
  replace h := zq_nx1 (q := 11) h rfl
  refine ⟨zq_k_n 62 h rfl (zq_o_62 _), ?_⟩
  replace h := zq_nx1 (q := 12) h rfl
  refine ⟨zq_k_n 3 h rfl (zq_o_3 _), ?_⟩
  replace h := zq_nx1 (q := 13) h rfl
  refine ⟨zq_k_u1 54 (fun z => .istore z) 4 h rfl (zq_o_54 _) (by decide +kernel), ?_⟩
  replace h := zq_nx2 (q := 15) h rfl
  refine ⟨zq_k_u1 21 (fun z => .iload z) 4 h rfl (zq_o_21 _) (by decide +kernel), ?_⟩
  replace h := zq_nx2 (q := 17) h rfl
  refine ⟨zq_k_n 42 h rfl (zq_o_42 _), ?_⟩
  replace h := zq_nx1 (q := 18) h rfl
  refine ⟨zq_k_u2 180 (fun z => .getfield z) 59 h rfl (zq_o_180 _) (by decide +kernel), ?_⟩
  replace h := zq_nx3 (q := 21) h rfl
  refine ⟨zq_k_s2 162 (fun z => .if_icmp .ge z) 36 h rfl (zq_o_162 _) (by decide +kernel), ?_⟩
  replace h := zq_nx3 (q := 24) h rfl
  refine ⟨zq_k_n 42 h rfl (zq_o_42 _), ?_⟩
  replace h := zq_nx1 (q := 25) h rfl
  refine ⟨zq_k_u1 21 (fun z => .iload z) 4 h rfl (zq_o_21 _) (by decide +kernel), ?_⟩
  replace h := zq_nx2 (q := 27) h rfl
  refine ⟨zq_k_u2 182 (fun z => .invokevirtual z) 145 h rfl (zq_o_182 _) (by decide +kernel), ?_⟩
  replace h := zq_nx3 (q := 30) h rfl
  refine ⟨zq_k_u1 54 (fun z => .istore z) 5 h rfl (zq_o_54 _) (by decide +kernel), ?_⟩
  replace h := zq_nx2 (q := 32) h rfl
  refine ⟨zq_k_u1 21 (fun z => .iload z) 5 h rfl (zq_o_21 _) (by decide +kernel), ?_⟩
  replace h := zq_nx2 (q := 34) h rfl
  refine ⟨zq_k_s1 16 (fun z => .bipush z) (-4) h rfl (zq_o_16 _) (by decide +kernel), ?_⟩
  replace h := zq_nx2 (q := 36) h rfl
  refine ⟨zq_k_s2 159 (fun z => .if_icmp .eq z) 15 h rfl (zq_o_159 _) (by decide +kernel), ?_⟩
  replace h := zq_nx3 (q := 39) h rfl
  refine ⟨zq_k_n 42 h rfl (zq_o_42 _), ?_⟩
  replace h := zq_nx1 (q := 40) h rfl
  exact zq_k_u1 21 (fun z => .iload z) 4 h rfl (zq_o_21 _) (by decide +kernel)
theorem d_Realm_eachForHimself_0 : decode prog_5_method_24_code 0 = .ok (.iconst 0, 1) := dd_Realm_eachForHimself_0.1
theorem d_Realm_eachForHimself_1 : decode prog_5_method_24_code 1 = .ok (.istore_n 1, 1) := dd_Realm_eachForHimself_0.2.1
theorem d_Realm_eachForHimself_2 : decode prog_5_method_24_code 2 = .ok (.iconst 0, 1) := dd_Realm_eachForHimself_0.2.2.1
theorem d_Realm_eachForHimself_3 : decode prog_5_method_24_code 3 = .ok (.istore_n 2, 1) := dd_Realm_eachForHimself_0.2.2.2.1
theorem d_Realm_eachForHimself_4 : decode prog_5_method_24_code 4 = .ok (.iload_n 2, 1) := dd_Realm_eachForHimself_0.2.2.2.2.1
theorem d_Realm_eachForHimself_5 : decode prog_5_method_24_code 5 = .ok (.bipush 15, 2) := dd_Realm_eachForHimself_0.2.2.2.2.2.1
theorem d_Realm_eachForHimself_7 : decode prog_5_method_24_code 7 = .ok (.if_icmp .gt 64, 3) := dd_Realm_eachForHimself_0.2.2.2.2.2.2.1
theorem d_Realm_eachForHimself_10 : decode prog_5_method_24_code 10 = .ok (.iload_n 1, 1) := dd_Realm_eachForHimself_0.2.2.2.2.2.2.2.1
theorem d_Realm_eachForHimself_11 : decode prog_5_method_24_code 11 = .ok (.istore_n 3, 1) := dd_Realm_eachForHimself_0.2.2.2.2.2.2.2.2.1
theorem d_Realm_eachForHimself_12 : decode prog_5_method_24_code 12 = .ok (.iconst 0, 1) := dd_Realm_eachForHimself_0.2.2.2.2.2.2.2.2.2.1
theorem d_Realm_eachForHimself_13 : decode prog_5_method_24_code 13 = .ok (.istore 4, 2) := dd_Realm_eachForHimself_0.2.2.2.2.2.2.2.2.2.2.1
theorem d_Realm_eachForHimself_15 : decode prog_5_method_24_code 15 = .ok (.iload 4, 2) := dd_Realm_eachForHimself_0.2.2.2.2.2.2.2.2.2.2.2.1
theorem d_Realm_eachForHimself_17 : decode prog_5_method_24_code 17 = .ok (.aload_n 0, 1) := dd_Realm_eachForHimself_0.2.2.2.2.2.2.2.2.2.2.2.2.1
theorem d_Realm_eachForHimself_18 : decode prog_5_method_24_code 18 = .ok (.getfield 59, 3) := dd_Realm_eachForHimself_0.2.2.2.2.2.2.2.2.2.2.2.2.2.1
theorem d_Realm_eachForHimself_21 : decode prog_5_method_24_code 21 = .ok (.if_icmp .ge 36, 3) := dd_Realm_eachForHimself_0.2.2.2.2.2.2.2.2.2.2.2.2.2.2.1
theorem d_Realm_eachForHimself_24 : decode prog_5_method_24_code 24 = .ok (.aload_n 0, 1) := dd_Realm_eachForHimself_0.2.2.2.2.2.2.2.2.2.2.2.2.2.2.2.1
theorem d_Realm_eachForHimself_25 : decode prog_5_method_24_code 25 = .ok (.iload 4, 2) := dd_Realm_eachForHimself_0.2.2.2.2.2.2.2.2.2.2.2.2.2.2.2.2.1
theorem d_Realm_eachForHimself_27 : decode prog_5_method_24_code 27 = .ok (.invokevirtual 145, 3) := dd_Realm_eachForHimself_0.2.2.2.2.2.2.2.2.2.2.2.2.2.2.2.2.2.1
theorem d_Realm_eachForHimself_30 : decode prog_5_method_24_code 30 = .ok (.istore 5, 2) := dd_Realm_eachForHimself_0.2.2.2.2.2.2.2.2.2.2.2.2.2.2.2.2.2.2.1
theorem d_Realm_eachForHimself_32 : decode prog_5_method_24_code 32 = .ok (.iload 5, 2) := dd_Realm_eachForHimself_0.2.2.2.2.2.2.2.2.2.2.2.2.2.2.2.2.2.2.2.1
theorem d_Realm_eachForHimself_34 : decode prog_5_method_24_code 34 = .ok (.bipush (-4), 2) := dd_Realm_eachForHimself_0.2.2.2.2.2.2.2.2.2.2.2.2.2.2.2.2.2.2.2.2.1
theorem d_Realm_eachForHimself_36 : decode prog_5_method_24_code 36 = .ok (.if_icmp .eq 15, 3) := dd_Realm_eachForHimself_0.2.2.2.2.2.2.2.2.2.2.2.2.2.2.2.2.2.2.2.2.2.1
theorem d_Realm_eachForHimself_39 : decode prog_5_method_24_code 39 = .ok (.aload_n 0, 1) := dd_Realm_eachForHimself_0.2.2.2.2.2.2.2.2.2.2.2.2.2.2.2.2.2.2.2.2.2.2.1
theorem d_Realm_eachForHimself_40 : decode prog_5_method_24_code 40 = .ok (.iload 4, 2) := dd_Realm_eachForHimself_0.2.2.2.2.2.2.2.2.2.2.2.2.2.2.2.2.2.2.2.2.2.2.2
set_option maxRecDepth 100000 in
theorem dd_Realm_eachForHimself_42 : (decode prog_5_method_24_code 42 = .ok (.iload 5, 2)) ∧ (decode prog_5_method_24_code 44 = .ok (.invokevirtual 135, 3)) ∧ (decode prog_5_method_24_code 47 = .ok (.pop, 1)) ∧ (decode prog_5_method_24_code 48 = .ok (.iinc 1 1, 3)) ∧ (decode prog_5_method_24_code 51 = .ok (.iinc 4 1, 3)) ∧ (decode prog_5_method_24_code 54 = .ok (.goto (-39), 3)) ∧ (decode prog_5_method_24_code 57 = .ok (.iload_n 1, 1)) ∧ (decode prog_5_method_24_code 58 = .ok (.iload_n 3, 1)) ∧ (decode prog_5_method_24_code 59 = .ok (.if_icmp .ne 6, 3)) ∧ (decode prog_5_method_24_code 62 = .ok (.goto 9, 3)) ∧ (decode prog_5_method_24_code 65 = .ok (.iinc 2 1, 3)) ∧ (decode prog_5_method_24_code 68 = .ok (.goto (-64), 3)) ∧ (decode prog_5_method_24_code 71 = .ok (.iload_n 1, 1)) ∧ (decode prog_5_method_24_code 72 = .ok (.ireturn, 1)) := by
  have h : List.drop 42 prog_5_method_24_code.data.toList = 0x15 :: _ := rfl
  refine ⟨zq_k_u1 21 (fun z => .iload z) 5 h rfl (zq_o_21 _) (by decide +kernel), ?_⟩
  replace h := zq_nx2 (q := 44) h rfl
  refine ⟨zq_k_u2 182 (fun z => .invokevirtual z) 135 h rfl (zq_o_182 _) (by decide +kernel), ?_⟩
  replace h := zq_nx3 (q := 47) h rfl
  refine ⟨zq_k_n 87 h rfl (zq_o_87 _), ?_⟩
  replace h := zq_nx1 (q := 48) h rfl
  refine ⟨zq_k_iinc 1 1 h rfl (zq_o_132 _) (by decide +kernel) (by decide +kernel), ?_⟩
  replace h := zq_nx3 (q := 51) h rfl
  refine ⟨zq_k_iinc 4 1 h rfl (zq_o_132 _) (by decide +kernel) (by decide +kernel), ?_⟩
  replace h := zq_nx3 (q := 54) h rfl
  refine ⟨zq_k_s2 167 (fun z => .goto z) (-39) h rfl (zq_o_167 _) (by decide +kernel), ?_⟩
  replace h := zq_nx3 (q := 57) h rfl
  refine ⟨zq_k_n 27 h rfl (zq_o_27 _), ?_⟩
  replace h := zq_nx1 (q := 58) h rfl
  refine ⟨zq_k_n 29 h rfl (zq_o_29 _), ?_⟩
  replace h := zq_nx1 (q := 59) h rfl
  refine ⟨zq_k_s2 160 (fun z => .if_icmp .ne z) 6 h rfl (zq_o_160 _) (by decide +kernel), ?_⟩
  replace h := zq_nx3 (q := 62) h rfl
  refine ⟨zq_k_s2 167 (fun z => .goto z) 9 h rfl (zq_o_167 _) (by decide +kernel), ?_⟩
  replace h := zq_nx3 (q := 65) h rfl
  refine ⟨zq_k_iinc 2 1 h rfl (zq_o_132 _) (by decide +kernel) (by decide +kernel), ?_⟩
  replace h := zq_nx3 (q := 68) h rfl
  refine ⟨zq_k_s2 167 (fun z => .goto z) (-64) h rfl (zq_o_167 _) (by decide +kernel), ?_⟩
  replace h := zq_nx3 (q := 71) h rfl
  refine ⟨zq_k_n 27 h rfl (zq_o_27 _), ?_⟩
  replace h := zq_nx1 (q := 72) h rfl
  exact zq_k_n 172 h rfl (zq_o_172 _)
theorem d_Realm_eachForHimself_42 : decode prog_5_method_24_code 42 = .ok (.iload 5, 2) := dd_Realm_eachForHimself_42.1
theorem d_Realm_eachForHimself_44 : decode prog_5_method_24_code 44 = .ok (.invokevirtual 135, 3) := dd_Realm_eachForHimself_42.2.1
theorem d_Realm_eachForHimself_47 : decode prog_5_method_24_code 47 = .ok (.pop, 1) := dd_Realm_eachForHimself_42.2.2.1
theorem d_Realm_eachForHimself_48 : decode prog_5_method_24_code 48 = .ok (.iinc 1 1, 3) := dd_Realm_eachForHimself_42.2.2.2.1
theorem d_Realm_eachForHimself_51 : decode prog_5_method_24_code 51 = .ok (.iinc 4 1, 3) := dd_Realm_eachForHimself_42.2.2.2.2.1
theorem d_Realm_eachForHimself_54 : decode prog_5_method_24_code 54 = .ok (.goto (-39), 3) := dd_Realm_eachForHimself_42.2.2.2.2.2.1
theorem d_Realm_eachForHimself_57 : decode prog_5_method_24_code 57 = .ok (.iload_n 1, 1) := dd_Realm_eachForHimself_42.2.2.2.2.2.2.1
theorem d_Realm_eachForHimself_58 : decode prog_5_method_24_code 58 = .ok (.iload_n 3, 1) := dd_Realm_eachForHimself_42.2.2.2.2.2.2.2.1
theorem d_Realm_eachForHimself_59 : decode prog_5_method_24_code 59 = .ok (.if_icmp .ne 6, 3) := dd_Realm_eachForHimself_42.2.2.2.2.2.2.2.2.1
theorem d_Realm_eachForHimself_62 : decode prog_5_method_24_code 62 = .ok (.goto 9, 3) := dd_Realm_eachForHimself_42.2.2.2.2.2.2.2.2.2.1
theorem d_Realm_eachForHimself_65 : decode prog_5_method_24_code 65 = .ok (.iinc 2 1, 3) := dd_Realm_eachForHimself_42.2.2.2.2.2.2.2.2.2.2.1
theorem d_Realm_eachForHimself_68 : decode prog_5_method_24_code 68 = .ok (.goto (-64), 3) := dd_Realm_eachForHimself_42.2.2.2.2.2.2.2.2.2.2.2.1
theorem d_Realm_eachForHimself_71 : decode prog_5_method_24_code 71 = .ok (.iload_n 1, 1) := dd_Realm_eachForHimself_42.2.2.2.2.2.2.2.2.2.2.2.2.1
theorem d_Realm_eachForHimself_72 : decode prog_5_method_24_code 72 = .ok (.ireturn, 1) := dd_Realm_eachForHimself_42.2.2.2.2.2.2.2.2.2.2.2.2.2
def f_Realm_eachForHimself_71  (b1 : Int32) (h : mH) : Option (Int32 × mH) :=
  some (b1, h)
set_option maxRecDepth 20000 in
theorem t_Realm_eachForHimself_71 {sc : Nat × (Nat → Int32)}  (b1 : Int32) (h : mH) (r : Int32) (h' : mH) (hf : f_Realm_eachForHimself_71  b1 h = some (r, h')) : G sc y_Realm_eachForHimself prog_5_method_24_code 6 (some .int) 5 115 71 [(1, .int b1)] [] h (some (.int r)) h' := by
  unfold f_Realm_eachForHimself_71 at hf
  refine g_iload_n (pc := 71) 0 d_Realm_eachForHimself_71 rfl rfl ?_
  obtain ⟨rfl, rfl⟩ := ret2 hf
  exact g_iret (pc := 72) rfl d_Realm_eachForHimself_72
def f_Realm_eachForHimself_51 (rec4 : Nat → Int32 → Int32 → mH → Option (Int32 × mH)) (rec15 : Nat → Int32 → Int32 → Int32 → Int32 → mH → Option (Int32 × mH)) (b0 : Nat) (b1 : Int32) (b2 : Int32) (b3 : Int32) (b4 : Int32) (h : mH) : Option (Int32 × mH) :=
  rec15 b0 b1 b2 b3 (b4 + (1 : Int32)) h
set_option maxRecDepth 20000 in
theorem t_Realm_eachForHimself_51 {sc : Nat × (Nat → Int32)} (rec4 : Nat → Int32 → Int32 → mH → Option (Int32 × mH)) (hrec4 : ∀ (b0 : Nat) (b1 : Int32) (b2 : Int32) (h : mH) (r : Int32) (h' : mH), rec4 b0 b1 b2 h = some (r, h') → G sc y_Realm_eachForHimself prog_5_method_24_code 6 (some .int) 5 115 4 [(0, .ref b0), (1, .int b1), (2, .int b2)] [] h (some (.int r)) h') (rec15 : Nat → Int32 → Int32 → Int32 → Int32 → mH → Option (Int32 × mH)) (hrec15 : ∀ (b0 : Nat) (b1 : Int32) (b2 : Int32) (b3 : Int32) (b4 : Int32) (h : mH) (r : Int32) (h' : mH), rec15 b0 b1 b2 b3 b4 h = some (r, h') → G sc y_Realm_eachForHimself prog_5_method_24_code 6 (some .int) 5 115 15 [(0, .ref b0), (1, .int b1), (2, .int b2), (3, .int b3), (4, .int b4)] [] h (some (.int r)) h') (b0 : Nat) (b1 : Int32) (b2 : Int32) (b3 : Int32) (b4 : Int32) (h : mH) (r : Int32) (h' : mH) (hf : f_Realm_eachForHimself_51 rec4 rec15 b0 b1 b2 b3 b4 h = some (r, h')) : G sc y_Realm_eachForHimself prog_5_method_24_code 6 (some .int) 5 115 51 [(0, .ref b0), (1, .int b1), (2, .int b2), (3, .int b3), (4, .int b4)] [] h (some (.int r)) h' := by
  unfold f_Realm_eachForHimself_51 at hf
  refine g_iinc (pc := 51) 4 (b4 + (1 : Int32)) [(4, .int (b4 + (1 : Int32))), (0, .ref b0), (1, .int b1), (2, .int b2), (3, .int b3)] d_Realm_eachForHimself_51 rfl rfl (Nat.le_of_ble_eq_true rfl) rfl ?_
  refine g_goto (pc := 54) 15 d_Realm_eachForHimself_54 (by decide) ?_
  refine g_lv [1, 2, 3, 4, 0] rfl ?_
  exact hrec15 _ _ _ _ _ _ _ _  hf
def f_Realm_eachForHimself_15b (rec4 : Nat → Int32 → Int32 → mH → Option (Int32 × mH)) (rec15 : Nat → Int32 → Int32 → Int32 → Int32 → mH → Option (Int32 × mH)) (b0 : Nat) (b1 : Int32) (b2 : Int32) (b3 : Int32) (b4 : Int32) (h : mH) : Option (Int32 × mH) :=
  bd1 (gI h b0 4 1) fun x2 =>
  if x2 ≤ b4 then
    if b1 = b3 then
      f_Realm_eachForHimself_71  b1 h
    else
      rec4 b0 b1 (b2 + (1 : Int32)) h
  else
    bd1 (kC h b0 4) fun _ =>
    bd2 (f_Realm_mostNeeded b0 b4 h) fun x9 h7 =>
    if x9 = ((-4) : Int32) then
      f_Realm_eachForHimself_51 rec4 rec15 b0 b1 b2 b3 b4 h7
    else
      bd1 (kC h7 b0 4) fun _ =>
      bd2 (f_Realm_mark b0 b4 x9 h7) fun x14 h12 =>
      f_Realm_eachForHimself_51 rec4 rec15 b0 (b1 + (1 : Int32)) b2 b3 b4 h12
set_option maxRecDepth 20000 in
theorem t_Realm_eachForHimself_15b {sc : Nat × (Nat → Int32)} (rec4 : Nat → Int32 → Int32 → mH → Option (Int32 × mH)) (hrec4 : ∀ (b0 : Nat) (b1 : Int32) (b2 : Int32) (h : mH) (r : Int32) (h' : mH), rec4 b0 b1 b2 h = some (r, h') → G sc y_Realm_eachForHimself prog_5_method_24_code 6 (some .int) 5 115 4 [(0, .ref b0), (1, .int b1), (2, .int b2)] [] h (some (.int r)) h') (rec15 : Nat → Int32 → Int32 → Int32 → Int32 → mH → Option (Int32 × mH)) (hrec15 : ∀ (b0 : Nat) (b1 : Int32) (b2 : Int32) (b3 : Int32) (b4 : Int32) (h : mH) (r : Int32) (h' : mH), rec15 b0 b1 b2 b3 b4 h = some (r, h') → G sc y_Realm_eachForHimself prog_5_method_24_code 6 (some .int) 5 115 15 [(0, .ref b0), (1, .int b1), (2, .int b2), (3, .int b3), (4, .int b4)] [] h (some (.int r)) h') (b0 : Nat) (b1 : Int32) (b2 : Int32) (b3 : Int32) (b4 : Int32) (h : mH) (r : Int32) (h' : mH) (hf : f_Realm_eachForHimself_15b rec4 rec15 b0 b1 b2 b3 b4 h = some (r, h')) : G sc y_Realm_eachForHimself prog_5_method_24_code 6 (some .int) 5 115 15 [(0, .ref b0), (1, .int b1), (2, .int b2), (3, .int b3), (4, .int b4)] [] h (some (.int r)) h' := by
  unfold f_Realm_eachForHimself_15b at hf
  refine g_iload (pc := 15) 4 d_Realm_eachForHimself_15 rfl ?_
  refine g_aload_n (pc := 17) 0 d_Realm_eachForHimself_17 rfl rfl ?_
  obtain ⟨x2, e3, hf⟩ := bd1_e hf
  refine g_get (pc := 18) (ci := 4) (kk := 1) d_Realm_eachForHimself_18 rfl in_Realm (by decide) wd_98 (gI_spec e3) ?_
  refine g_icmpge (pc := 21) 57 d_Realm_eachForHimself_21 (by decide) (fun c16 => ?_) (fun c16 => ?_)
  · replace hf := (if_pos c16).symm.trans hf
    refine g_iload_n (pc := 57) 1 d_Realm_eachForHimself_57 rfl rfl ?_
    refine g_iload_n (pc := 58) 3 d_Realm_eachForHimself_58 rfl rfl ?_
    refine g_icmpne (pc := 59) 65 d_Realm_eachForHimself_59 (by decide) (fun c4 => ?_) (fun c4 => ?_)
    · replace hf := (if_neg c4).symm.trans hf
      refine g_iinc (pc := 65) 2 (b2 + (1 : Int32)) [(2, .int (b2 + (1 : Int32))), (0, .ref b0), (1, .int b1), (3, .int b3), (4, .int b4)] d_Realm_eachForHimself_65 rfl rfl (Nat.le_of_ble_eq_true rfl) rfl ?_
      refine g_goto (pc := 68) 4 d_Realm_eachForHimself_68 (by decide) ?_
      refine g_lv [1, 2, 0] rfl ?_
      exact hrec4 _ _ _ _ _ _  hf
    · replace hf := (if_pos c4).symm.trans hf
      refine g_goto (pc := 62) 71 d_Realm_eachForHimself_62 (by decide) ?_
      refine g_lv [1] rfl ?_
      exact t_Realm_eachForHimself_71  _ _ _ _  hf
  · replace hf := (if_neg c16).symm.trans hf
    refine g_aload_n (pc := 24) 0 d_Realm_eachForHimself_24 rfl rfl ?_
    refine g_iload (pc := 25) 4 d_Realm_eachForHimself_25 rfl ?_
    obtain ⟨u6, e5, hf⟩ := bd1_e hf
    obtain ⟨x9, h7, e8, hf⟩ := bd2_e hf
    refine g_callV (pc := 27) (ci := 4) [.int b4] (site_of si_Realm_mostNeeded (by decide) (by decide)) wd_736 wd_737 wd_738 d_Realm_eachForHimself_27 rfl e5 (Nat.le_of_ble_eq_true rfl) (fun z => absurd z (by decide)) (fun z => absurd z (by decide)) (fun z => absurd z (by decide)) (c_Realm_mostNeeded e8) rfl ?_
    refine g_st [.int x9] rfl ?_
    refine g_istore (pc := 30) [(5, .int x9), (0, .ref b0), (1, .int b1), (2, .int b2), (3, .int b3), (4, .int b4)] d_Realm_eachForHimself_30 (Nat.le_of_ble_eq_true rfl) rfl ?_
    refine g_iload (pc := 32) 0 d_Realm_eachForHimself_32 rfl ?_
    refine g_bipush (pc := 34) ((-4) : Int32) d_Realm_eachForHimself_34 (by decide) ?_
    refine g_icmpeq (pc := 36) 51 d_Realm_eachForHimself_36 (by decide) (fun c15 => ?_) (fun c15 => ?_)
    · replace hf := (if_pos c15).symm.trans hf
      refine g_lv [1, 2, 3, 4, 5] rfl ?_
      exact t_Realm_eachForHimself_51 rec4 hrec4 rec15 hrec15 _ _ _ _ _ _ _ _  hf
    · replace hf := (if_neg c15).symm.trans hf
      refine g_aload_n (pc := 39) 1 d_Realm_eachForHimself_39 rfl rfl ?_
      refine g_iload (pc := 40) 5 d_Realm_eachForHimself_40 rfl ?_
      refine g_iload (pc := 42) 0 d_Realm_eachForHimself_42 rfl ?_
      obtain ⟨u11, e10, hf⟩ := bd1_e hf
      obtain ⟨x14, h12, e13, hf⟩ := bd2_e hf
      refine g_callV (pc := 44) (ci := 4) [.int b4, .int x9] (site_of si_Realm_mark (by decide) (by decide)) wd_630 wd_631 wd_632 d_Realm_eachForHimself_44 rfl e10 (Nat.le_of_ble_eq_true rfl) (fun z => absurd z (by decide)) (fun z => absurd z (by decide)) (fun z => absurd z (by decide)) (c_Realm_mark e13) rfl ?_
      refine g_st [.int x14] rfl ?_
      refine g_pop (pc := 47) d_Realm_eachForHimself_47 rfl ?_
      refine g_iinc (pc := 48) 2 (b1 + (1 : Int32)) [(1, .int (b1 + (1 : Int32))), (5, .int x9), (0, .ref b0), (2, .int b2), (3, .int b3), (4, .int b4)] d_Realm_eachForHimself_48 rfl rfl (Nat.le_of_ble_eq_true rfl) rfl ?_
      refine g_lv [2, 0, 3, 4, 5] rfl ?_
      exact t_Realm_eachForHimself_51 rec4 hrec4 rec15 hrec15 _ _ _ _ _ _ _ _  hf
def f_Realm_eachForHimself_15 (rec4 : Nat → Int32 → Int32 → mH → Option (Int32 × mH)) : Nat → Nat → Int32 → Int32 → Int32 → Int32 → mH → Option (Int32 × mH)
  | 0 => fun _ _ _ _ _ _ => none
  | n + 1 => f_Realm_eachForHimself_15b rec4 (f_Realm_eachForHimself_15 rec4 n)
theorem t_Realm_eachForHimself_15 {sc : Nat × (Nat → Int32)} (rec4 : Nat → Int32 → Int32 → mH → Option (Int32 × mH)) (hrec4 : ∀ (b0 : Nat) (b1 : Int32) (b2 : Int32) (h : mH) (r : Int32) (h' : mH), rec4 b0 b1 b2 h = some (r, h') → G sc y_Realm_eachForHimself prog_5_method_24_code 6 (some .int) 5 115 4 [(0, .ref b0), (1, .int b1), (2, .int b2)] [] h (some (.int r)) h') : ∀ (n : Nat) (b0 : Nat) (b1 : Int32) (b2 : Int32) (b3 : Int32) (b4 : Int32) (h : mH) (r : Int32) (h' : mH) (hf : f_Realm_eachForHimself_15 rec4 n b0 b1 b2 b3 b4 h = some (r, h')), G sc y_Realm_eachForHimself prog_5_method_24_code 6 (some .int) 5 115 15 [(0, .ref b0), (1, .int b1), (2, .int b2), (3, .int b3), (4, .int b4)] [] h (some (.int r)) h'
  | 0, _, _, _, _, _, _, _, _, hf => by cases hf
  | n + 1, _, _, _, _, _, _, _, _, hf => t_Realm_eachForHimself_15b rec4 hrec4 (f_Realm_eachForHimself_15 rec4 n) (t_Realm_eachForHimself_15 rec4 hrec4 n) _ _ _ _ _ _ _ _ hf
def f_Realm_eachForHimself_4b (rec4 : Nat → Int32 → Int32 → mH → Option (Int32 × mH)) (b0 : Nat) (b1 : Int32) (b2 : Int32) (h : mH) : Option (Int32 × mH) :=
  if (15 : Int32) < b2 then
    f_Realm_eachForHimself_71  b1 h
  else
    f_Realm_eachForHimself_15 rec4 FU b0 b1 b2 b1 (0 : Int32) h
set_option maxRecDepth 20000 in
theorem t_Realm_eachForHimself_4b {sc : Nat × (Nat → Int32)} (rec4 : Nat → Int32 → Int32 → mH → Option (Int32 × mH)) (hrec4 : ∀ (b0 : Nat) (b1 : Int32) (b2 : Int32) (h : mH) (r : Int32) (h' : mH), rec4 b0 b1 b2 h = some (r, h') → G sc y_Realm_eachForHimself prog_5_method_24_code 6 (some .int) 5 115 4 [(0, .ref b0), (1, .int b1), (2, .int b2)] [] h (some (.int r)) h') (b0 : Nat) (b1 : Int32) (b2 : Int32) (h : mH) (r : Int32) (h' : mH) (hf : f_Realm_eachForHimself_4b rec4 b0 b1 b2 h = some (r, h')) : G sc y_Realm_eachForHimself prog_5_method_24_code 6 (some .int) 5 115 4 [(0, .ref b0), (1, .int b1), (2, .int b2)] [] h (some (.int r)) h' := by
  unfold f_Realm_eachForHimself_4b at hf
  refine g_iload_n (pc := 4) 2 d_Realm_eachForHimself_4 rfl rfl ?_
  refine g_bipush (pc := 5) (15 : Int32) d_Realm_eachForHimself_5 (by decide) ?_
  refine g_icmpgt (pc := 7) 71 d_Realm_eachForHimself_7 (by decide) (fun c1 => ?_) (fun c1 => ?_)
  · replace hf := (if_pos c1).symm.trans hf
    refine g_lv [1] rfl ?_
    exact t_Realm_eachForHimself_71  _ _ _ _  hf
  · replace hf := (if_neg c1).symm.trans hf
    refine g_iload_n (pc := 10) 1 d_Realm_eachForHimself_10 rfl rfl ?_
    refine g_istore_n (pc := 11) [(3, .int b1), (0, .ref b0), (1, .int b1), (2, .int b2)] d_Realm_eachForHimself_11 rfl (Nat.le_of_ble_eq_true rfl) rfl ?_
    refine g_iconst (pc := 12) (0 : Int32) d_Realm_eachForHimself_12 (by decide) ?_
    refine g_istore (pc := 13) [(4, .int (0 : Int32)), (3, .int b1), (0, .ref b0), (1, .int b1), (2, .int b2)] d_Realm_eachForHimself_13 (Nat.le_of_ble_eq_true rfl) rfl ?_
    refine g_lv [2, 3, 4, 1, 0] rfl ?_
    exact t_Realm_eachForHimself_15 rec4 hrec4 FU _ _ _ _ _ _ _ _  hf
def f_Realm_eachForHimself_4  : Nat → Nat → Int32 → Int32 → mH → Option (Int32 × mH)
  | 0 => fun _ _ _ _ => none
  | n + 1 => f_Realm_eachForHimself_4b  (f_Realm_eachForHimself_4  n)
theorem t_Realm_eachForHimself_4 {sc : Nat × (Nat → Int32)}  : ∀ (n : Nat) (b0 : Nat) (b1 : Int32) (b2 : Int32) (h : mH) (r : Int32) (h' : mH) (hf : f_Realm_eachForHimself_4  n b0 b1 b2 h = some (r, h')), G sc y_Realm_eachForHimself prog_5_method_24_code 6 (some .int) 5 115 4 [(0, .ref b0), (1, .int b1), (2, .int b2)] [] h (some (.int r)) h'
  | 0, _, _, _, _, _, _, hf => by cases hf
  | n + 1, _, _, _, _, _, _, hf => t_Realm_eachForHimself_4b  (f_Realm_eachForHimself_4  n) (t_Realm_eachForHimself_4  n) _ _ _ _ _ _ hf
def f_Realm_eachForHimself_0  (a0 : Nat) (h : mH) : Option (Int32 × mH) :=
  f_Realm_eachForHimself_4  FU a0 (0 : Int32) (0 : Int32) h
set_option maxRecDepth 20000 in
theorem t_Realm_eachForHimself_0 {sc : Nat × (Nat → Int32)}  (a0 : Nat) (h : mH) (r : Int32) (h' : mH) (hf : f_Realm_eachForHimself_0  a0 h = some (r, h')) : G sc y_Realm_eachForHimself prog_5_method_24_code 6 (some .int) 5 115 0 [(0, .ref a0)] [] h (some (.int r)) h' := by
  unfold f_Realm_eachForHimself_0 at hf
  refine g_iconst (pc := 0) (0 : Int32) d_Realm_eachForHimself_0 (by decide) ?_
  refine g_istore_n (pc := 1) [(1, .int (0 : Int32)), (0, .ref a0)] d_Realm_eachForHimself_1 rfl (Nat.le_of_ble_eq_true rfl) rfl ?_
  refine g_iconst (pc := 2) (0 : Int32) d_Realm_eachForHimself_2 (by decide) ?_
  refine g_istore_n (pc := 3) [(2, .int (0 : Int32)), (1, .int (0 : Int32)), (0, .ref a0)] d_Realm_eachForHimself_3 rfl (Nat.le_of_ble_eq_true rfl) rfl ?_
  refine g_lv [2, 1, 0] rfl ?_
  exact t_Realm_eachForHimself_4  FU _ _ _ _ _ _  hf
def f_Realm_eachForHimself (a0 : Nat) (h : mH) : Option (Int32 × mH) := f_Realm_eachForHimself_0 a0 h
theorem c_Realm_eachForHimself {sc : Nat × (Nat → Int32)} {a0 : Nat} {h : mH} {r : Int32} {h' : mH} (hf : f_Realm_eachForHimself a0 h = some (r, h')) : MM sc y_Realm_eachForHimself prog_5_method_24_code 6 (some .int) 5 115 [.ref a0] h (some (.int r)) h' :=
  mm_of_G (by decide) (Nat.le_of_ble_eq_true rfl) (t_Realm_eachForHimself_0 _ _ _ _ hf)
/-! Realm met ()I -/
set_option maxRecDepth 100000 in
theorem dd_Realm_met_0 : (decode prog_5_method_23_code 0 = .ok (.iconst 0, 1)) ∧ (decode prog_5_method_23_code 1 = .ok (.istore_n 1, 1)) ∧ (decode prog_5_method_23_code 2 = .ok (.iconst 0, 1)) ∧ (decode prog_5_method_23_code 3 = .ok (.istore_n 2, 1)) ∧ (decode prog_5_method_23_code 4 = .ok (.iload_n 2, 1)) ∧ (decode prog_5_method_23_code 5 = .ok (.aload_n 0, 1)) ∧ (decode prog_5_method_23_code 6 = .ok (.getfield 55, 3)) ∧ (decode prog_5_method_23_code 9 = .ok (.if_icmp .ge 27, 3)) ∧ (decode prog_5_method_23_code 12 = .ok (.iload_n 1, 1)) ∧ (decode prog_5_method_23_code 13 = .ok (.aload_n 0, 1)) ∧ (decode prog_5_method_23_code 14 = .ok (.iload_n 2, 1)) ∧ (decode prog_5_method_23_code 15 = .ok (.invokevirtual 117, 3)) ∧ (decode prog_5_method_23_code 18 = .ok (.ifCond .ne 9, 3)) ∧ (decode prog_5_method_23_code 21 = .ok (.iconst 1, 1)) ∧ (decode prog_5_method_23_code 22 = .ok (.iload_n 2, 1)) ∧ (decode prog_5_method_23_code 23 = .ok (.ishl, 1)) ∧ (decode prog_5_method_23_code 24 = .ok (.goto 4, 3)) ∧ (decode prog_5_method_23_code 27 = .ok (.iconst 0, 1)) ∧ (decode prog_5_method_23_code 28 = .ok (.ior, 1)) ∧ (decode prog_5_method_23_code 29 = .ok (.istore_n 1, 1)) ∧ (decode prog_5_method_23_code 30 = .ok (.iinc 2 1, 3)) ∧ (decode prog_5_method_23_code 33 = .ok (.goto (-29), 3)) ∧ (decode prog_5_method_23_code 36 = .ok (.iload_n 1, 1)) ∧ (decode prog_5_method_23_code 37 = .ok (.aload_n 0, 1)) := by
  have h : List.drop 0 prog_5_method_23_code.data.toList = 0x03 :: _ := rfl
  refine ⟨zq_k_n 3 h rfl (zq_o_3 _), ?_⟩
  replace h := zq_nx1 (q := 1) h rfl
  refine ⟨zq_k_n 60 h rfl (zq_o_60 _), ?_⟩
  replace h := zq_nx1 (q := 2) h rfl
  refine ⟨zq_k_n 3 h rfl (zq_o_3 _), ?_⟩
  replace h := zq_nx1 (q := 3) h rfl
  refine ⟨zq_k_n 61 h rfl (zq_o_61 _), ?_⟩
  replace h := zq_nx1 (q := 4) h rfl
  refine ⟨zq_k_n 28 h rfl (zq_o_28 _), ?_⟩
  replace h := zq_nx1 (q := 5) h rfl
  refine ⟨zq_k_n 42 h rfl (zq_o_42 _), ?_⟩
  replace h := zq_nx1 (q := 6) h rfl
  refine ⟨zq_k_u2 180 (fun z => .getfield z) 55 h rfl (zq_o_180 _) (by decide +kernel), ?_⟩
  replace h := zq_nx3 (q := 9) h rfl
  refine ⟨zq_k_s2 162 (fun z => .if_icmp .ge z) 27 h rfl (zq_o_162 _) (by decide +kernel), ?_⟩
  replace h := zq_nx3 (q := 12) h rfl
  refine ⟨zq_k_n 27 h rfl (zq_o_27 _), ?_⟩
  replace h := zq_nx1 (q := 13) h rfl
  refine ⟨zq_k_n 42 h rfl (zq_o_42 _), ?_⟩
  replace h := zq_nx1 (q := 14) h rfl
  refine ⟨zq_k_n 28 h rfl (zq_o_28 _), ?_⟩
  replace h := zq_nx1 (q := 15) h rfl
  refine ⟨zq_k_u2 182 (fun z => .invokevirtual z) 117 h rfl (zq_o_182 _) (by decide +kernel), ?_⟩
  replace h := zq_nx3 (q := 18) h rfl
  refine ⟨zq_k_s2 154 (fun z => .ifCond .ne z) 9 h rfl (zq_o_154 _) (by decide +kernel), ?_⟩
  replace h := zq_nx3 (q := 21) h rfl
  refine ⟨zq_k_n 4 h rfl (zq_o_4 _), ?_⟩
  replace h := zq_nx1 (q := 22) h rfl
  refine ⟨zq_k_n 28 h rfl (zq_o_28 _), ?_⟩
  replace h := zq_nx1 (q := 23) h rfl
  refine ⟨zq_k_n 120 h rfl (zq_o_120 _), ?_⟩
  replace h := zq_nx1 (q := 24) h rfl
  refine ⟨zq_k_s2 167 (fun z => .goto z) 4 h rfl (zq_o_167 _) (by decide +kernel), ?_⟩
  replace h := zq_nx3 (q := 27) h rfl
  refine ⟨zq_k_n 3 h rfl (zq_o_3 _), ?_⟩
  replace h := zq_nx1 (q := 28) h rfl
  refine ⟨zq_k_n 128 h rfl (zq_o_128 _), ?_⟩
  replace h := zq_nx1 (q := 29) h rfl
  refine ⟨zq_k_n 60 h rfl (zq_o_60 _), ?_⟩
  replace h := zq_nx1 (q := 30) h rfl
  refine ⟨zq_k_iinc 2 1 h rfl (zq_o_132 _) (by decide +kernel) (by decide +kernel), ?_⟩
  replace h := zq_nx3 (q := 33) h rfl
  refine ⟨zq_k_s2 167 (fun z => .goto z) (-29) h rfl (zq_o_167 _) (by decide +kernel), ?_⟩
  replace h := zq_nx3 (q := 36) h rfl
  refine ⟨zq_k_n 27 h rfl (zq_o_27 _), ?_⟩
  replace h := zq_nx1 (q := 37) h rfl
  exact zq_k_n 42 h rfl (zq_o_42 _)
theorem d_Realm_met_0 : decode prog_5_method_23_code 0 = .ok (.iconst 0, 1) := dd_Realm_met_0.1
theorem d_Realm_met_1 : decode prog_5_method_23_code 1 = .ok (.istore_n 1, 1) := dd_Realm_met_0.2.1
theorem d_Realm_met_2 : decode prog_5_method_23_code 2 = .ok (.iconst 0, 1) := dd_Realm_met_0.2.2.1
theorem d_Realm_met_3 : decode prog_5_method_23_code 3 = .ok (.istore_n 2, 1) := dd_Realm_met_0.2.2.2.1
theorem d_Realm_met_4 : decode prog_5_method_23_code 4 = .ok (.iload_n 2, 1) := dd_Realm_met_0.2.2.2.2.1
theorem d_Realm_met_5 : decode prog_5_method_23_code 5 = .ok (.aload_n 0, 1) := dd_Realm_met_0.2.2.2.2.2.1
theorem d_Realm_met_6 : decode prog_5_method_23_code 6 = .ok (.getfield 55, 3) := dd_Realm_met_0.2.2.2.2.2.2.1
theorem d_Realm_met_9 : decode prog_5_method_23_code 9 = .ok (.if_icmp .ge 27, 3) := dd_Realm_met_0.2.2.2.2.2.2.2.1
theorem d_Realm_met_12 : decode prog_5_method_23_code 12 = .ok (.iload_n 1, 1) := dd_Realm_met_0.2.2.2.2.2.2.2.2.1
theorem d_Realm_met_13 : decode prog_5_method_23_code 13 = .ok (.aload_n 0, 1) := dd_Realm_met_0.2.2.2.2.2.2.2.2.2.1
theorem d_Realm_met_14 : decode prog_5_method_23_code 14 = .ok (.iload_n 2, 1) := dd_Realm_met_0.2.2.2.2.2.2.2.2.2.2.1
theorem d_Realm_met_15 : decode prog_5_method_23_code 15 = .ok (.invokevirtual 117, 3) := dd_Realm_met_0.2.2.2.2.2.2.2.2.2.2.2.1
theorem d_Realm_met_18 : decode prog_5_method_23_code 18 = .ok (.ifCond .ne 9, 3) := dd_Realm_met_0.2.2.2.2.2.2.2.2.2.2.2.2.1
theorem d_Realm_met_21 : decode prog_5_method_23_code 21 = .ok (.iconst 1, 1) := dd_Realm_met_0.2.2.2.2.2.2.2.2.2.2.2.2.2.1
theorem d_Realm_met_22 : decode prog_5_method_23_code 22 = .ok (.iload_n 2, 1) := dd_Realm_met_0.2.2.2.2.2.2.2.2.2.2.2.2.2.2.1
theorem d_Realm_met_23 : decode prog_5_method_23_code 23 = .ok (.ishl, 1) := dd_Realm_met_0.2.2.2.2.2.2.2.2.2.2.2.2.2.2.2.1
theorem d_Realm_met_24 : decode prog_5_method_23_code 24 = .ok (.goto 4, 3) := dd_Realm_met_0.2.2.2.2.2.2.2.2.2.2.2.2.2.2.2.2.1
theorem d_Realm_met_27 : decode prog_5_method_23_code 27 = .ok (.iconst 0, 1) := dd_Realm_met_0.2.2.2.2.2.2.2.2.2.2.2.2.2.2.2.2.2.1
theorem d_Realm_met_28 : decode prog_5_method_23_code 28 = .ok (.ior, 1) := dd_Realm_met_0.2.2.2.2.2.2.2.2.2.2.2.2.2.2.2.2.2.2.1
theorem d_Realm_met_29 : decode prog_5_method_23_code 29 = .ok (.istore_n 1, 1) := dd_Realm_met_0.2.2.2.2.2.2.2.2.2.2.2.2.2.2.2.2.2.2.2.1
theorem d_Realm_met_30 : decode prog_5_method_23_code 30 = .ok (.iinc 2 1, 3) := dd_Realm_met_0.2.2.2.2.2.2.2.2.2.2.2.2.2.2.2.2.2.2.2.2.1
theorem d_Realm_met_33 : decode prog_5_method_23_code 33 = .ok (.goto (-29), 3) := dd_Realm_met_0.2.2.2.2.2.2.2.2.2.2.2.2.2.2.2.2.2.2.2.2.2.1
theorem d_Realm_met_36 : decode prog_5_method_23_code 36 = .ok (.iload_n 1, 1) := dd_Realm_met_0.2.2.2.2.2.2.2.2.2.2.2.2.2.2.2.2.2.2.2.2.2.2.1
theorem d_Realm_met_37 : decode prog_5_method_23_code 37 = .ok (.aload_n 0, 1) := dd_Realm_met_0.2.2.2.2.2.2.2.2.2.2.2.2.2.2.2.2.2.2.2.2.2.2.2
set_option maxRecDepth 100000 in
theorem dd_Realm_met_38 : (decode prog_5_method_23_code 38 = .ok (.getfield 68, 3)) ∧ (decode prog_5_method_23_code 41 = .ok (.iand, 1)) ∧ (decode prog_5_method_23_code 42 = .ok (.ireturn, 1)) := by
  have h : List.drop 38 prog_5_method_23_code.data.toList = 0xb4 :: _ := rfl
  refine ⟨zq_k_u2 180 (fun z => .getfield z) 68 h rfl (zq_o_180 _) (by decide +kernel), ?_⟩
  replace h := zq_nx3 (q := 41) h rfl
  refine ⟨zq_k_n 126 h rfl (zq_o_126 _), ?_⟩
  replace h := zq_nx1 (q := 42) h rfl
  exact zq_k_n 172 h rfl (zq_o_172 _)
theorem d_Realm_met_38 : decode prog_5_method_23_code 38 = .ok (.getfield 68, 3) := dd_Realm_met_38.1
theorem d_Realm_met_41 : decode prog_5_method_23_code 41 = .ok (.iand, 1) := dd_Realm_met_38.2.1
theorem d_Realm_met_42 : decode prog_5_method_23_code 42 = .ok (.ireturn, 1) := dd_Realm_met_38.2.2
def f_Realm_met_28 (rec4 : Nat → Int32 → Int32 → mH → Option (Int32 × mH)) (b0 : Nat) (b2 : Int32) (s0 : Int32) (s1 : Int32) (h : mH) : Option (Int32 × mH) :=
  rec4 b0 (s0 ||| s1) (b2 + (1 : Int32)) h
set_option maxRecDepth 20000 in
theorem t_Realm_met_28 {sc : Nat × (Nat → Int32)} (rec4 : Nat → Int32 → Int32 → mH → Option (Int32 × mH)) (hrec4 : ∀ (b0 : Nat) (b1 : Int32) (b2 : Int32) (h : mH) (r : Int32) (h' : mH), rec4 b0 b1 b2 h = some (r, h') → G sc y_Realm_met prog_5_method_23_code 3 (some .int) 2 45 4 [(0, .ref b0), (1, .int b1), (2, .int b2)] [] h (some (.int r)) h') (b0 : Nat) (b2 : Int32) (s0 : Int32) (s1 : Int32) (h : mH) (r : Int32) (h' : mH) (hf : f_Realm_met_28 rec4 b0 b2 s0 s1 h = some (r, h')) : G sc y_Realm_met prog_5_method_23_code 3 (some .int) 2 45 28 [(0, .ref b0), (2, .int b2)] [.int s1, .int s0] h (some (.int r)) h' := by
  unfold f_Realm_met_28 at hf
  refine g_ior (pc := 28) d_Realm_met_28 ?_
  refine g_istore_n (pc := 29) [(1, .int (s0 ||| s1)), (0, .ref b0), (2, .int b2)] d_Realm_met_29 rfl (Nat.le_of_ble_eq_true rfl) rfl ?_
  refine g_iinc (pc := 30) 2 (b2 + (1 : Int32)) [(2, .int (b2 + (1 : Int32))), (1, .int (s0 ||| s1)), (0, .ref b0)] d_Realm_met_30 rfl rfl (Nat.le_of_ble_eq_true rfl) rfl ?_
  refine g_goto (pc := 33) 4 d_Realm_met_33 (by decide) ?_
  refine g_lv [2, 1, 0] rfl ?_
  exact hrec4 _ _ _ _ _ _  hf
def f_Realm_met_4b (rec4 : Nat → Int32 → Int32 → mH → Option (Int32 × mH)) (b0 : Nat) (b1 : Int32) (b2 : Int32) (h : mH) : Option (Int32 × mH) :=
  bd1 (gI h b0 4 0) fun x1 =>
  if x1 ≤ b2 then
    bd1 (gI h b0 4 4) fun x3 =>
    some (b1 &&& x3, h)
  else
    bd1 (kC h b0 4) fun _ =>
    bd2 (f_Realm_needOf b0 b2 h) fun x9 h7 =>
    if x9 = 0 then
      f_Realm_met_28 rec4 b0 b2 b1 ((1 : Int32) <<< (b2 &&& 31)) h7
    else
      f_Realm_met_28 rec4 b0 b2 b1 (0 : Int32) h7
set_option maxRecDepth 20000 in
theorem t_Realm_met_4b {sc : Nat × (Nat → Int32)} (rec4 : Nat → Int32 → Int32 → mH → Option (Int32 × mH)) (hrec4 : ∀ (b0 : Nat) (b1 : Int32) (b2 : Int32) (h : mH) (r : Int32) (h' : mH), rec4 b0 b1 b2 h = some (r, h') → G sc y_Realm_met prog_5_method_23_code 3 (some .int) 2 45 4 [(0, .ref b0), (1, .int b1), (2, .int b2)] [] h (some (.int r)) h') (b0 : Nat) (b1 : Int32) (b2 : Int32) (h : mH) (r : Int32) (h' : mH) (hf : f_Realm_met_4b rec4 b0 b1 b2 h = some (r, h')) : G sc y_Realm_met prog_5_method_23_code 3 (some .int) 2 45 4 [(0, .ref b0), (1, .int b1), (2, .int b2)] [] h (some (.int r)) h' := by
  unfold f_Realm_met_4b at hf
  refine g_iload_n (pc := 4) 2 d_Realm_met_4 rfl rfl ?_
  refine g_aload_n (pc := 5) 0 d_Realm_met_5 rfl rfl ?_
  obtain ⟨x1, e2, hf⟩ := bd1_e hf
  refine g_get (pc := 6) (ci := 4) (kk := 0) d_Realm_met_6 rfl in_Realm (by decide) wd_93 (gI_spec e2) ?_
  refine g_icmpge (pc := 9) 36 d_Realm_met_9 (by decide) (fun c11 => ?_) (fun c11 => ?_)
  · replace hf := (if_pos c11).symm.trans hf
    refine g_iload_n (pc := 36) 1 d_Realm_met_36 rfl rfl ?_
    refine g_aload_n (pc := 37) 0 d_Realm_met_37 rfl rfl ?_
    obtain ⟨x3, e4, hf⟩ := bd1_e hf
    refine g_get (pc := 38) (ci := 4) (kk := 4) d_Realm_met_38 rfl in_Realm (by decide) wd_107 (gI_spec e4) ?_
    refine g_iand (pc := 41) d_Realm_met_41 ?_
    obtain ⟨rfl, rfl⟩ := ret2 hf
    exact g_iret (pc := 42) rfl d_Realm_met_42
  · replace hf := (if_neg c11).symm.trans hf
    refine g_iload_n (pc := 12) 1 d_Realm_met_12 rfl rfl ?_
    refine g_aload_n (pc := 13) 0 d_Realm_met_13 rfl rfl ?_
    refine g_iload_n (pc := 14) 2 d_Realm_met_14 rfl rfl ?_
    obtain ⟨u6, e5, hf⟩ := bd1_e hf
    obtain ⟨x9, h7, e8, hf⟩ := bd2_e hf
    refine g_callV (pc := 15) (ci := 4) [.int b2] (site_of si_Realm_needOf (by decide) (by decide)) wd_646 wd_521 wd_522 d_Realm_met_15 rfl e5 (Nat.le_of_ble_eq_true rfl) (fun z => absurd z (by decide)) (fun z => absurd z (by decide)) (fun z => absurd z (by decide)) (c_Realm_needOf e8) rfl ?_
    refine g_st [.int x9, .int b1] rfl ?_
    refine g_ifne (pc := 18) 27 d_Realm_met_18 (by decide) (fun c10 => ?_) (fun c10 => ?_)
    · replace hf := (if_neg c10).symm.trans hf
      refine g_iconst (pc := 27) (0 : Int32) d_Realm_met_27 (by decide) ?_
      refine g_lv [0, 2] rfl ?_
      exact t_Realm_met_28 rec4 hrec4 _ _ _ _ _ _ _  hf
    · replace hf := (if_pos c10).symm.trans hf
      refine g_iconst (pc := 21) (1 : Int32) d_Realm_met_21 (by decide) ?_
      refine g_iload_n (pc := 22) 2 d_Realm_met_22 rfl rfl ?_
      refine g_ishl (pc := 23) d_Realm_met_23 ?_
      refine g_goto (pc := 24) 28 d_Realm_met_24 (by decide) ?_
      refine g_lv [0, 2] rfl ?_
      exact t_Realm_met_28 rec4 hrec4 _ _ _ _ _ _ _  hf
def f_Realm_met_4  : Nat → Nat → Int32 → Int32 → mH → Option (Int32 × mH)
  | 0 => fun _ _ _ _ => none
  | n + 1 => f_Realm_met_4b  (f_Realm_met_4  n)
theorem t_Realm_met_4 {sc : Nat × (Nat → Int32)}  : ∀ (n : Nat) (b0 : Nat) (b1 : Int32) (b2 : Int32) (h : mH) (r : Int32) (h' : mH) (hf : f_Realm_met_4  n b0 b1 b2 h = some (r, h')), G sc y_Realm_met prog_5_method_23_code 3 (some .int) 2 45 4 [(0, .ref b0), (1, .int b1), (2, .int b2)] [] h (some (.int r)) h'
  | 0, _, _, _, _, _, _, hf => by cases hf
  | n + 1, _, _, _, _, _, _, hf => t_Realm_met_4b  (f_Realm_met_4  n) (t_Realm_met_4  n) _ _ _ _ _ _ hf
def f_Realm_met_0  (a0 : Nat) (h : mH) : Option (Int32 × mH) :=
  f_Realm_met_4  FU a0 (0 : Int32) (0 : Int32) h
set_option maxRecDepth 20000 in
theorem t_Realm_met_0 {sc : Nat × (Nat → Int32)}  (a0 : Nat) (h : mH) (r : Int32) (h' : mH) (hf : f_Realm_met_0  a0 h = some (r, h')) : G sc y_Realm_met prog_5_method_23_code 3 (some .int) 2 45 0 [(0, .ref a0)] [] h (some (.int r)) h' := by
  unfold f_Realm_met_0 at hf
  refine g_iconst (pc := 0) (0 : Int32) d_Realm_met_0 (by decide) ?_
  refine g_istore_n (pc := 1) [(1, .int (0 : Int32)), (0, .ref a0)] d_Realm_met_1 rfl (Nat.le_of_ble_eq_true rfl) rfl ?_
  refine g_iconst (pc := 2) (0 : Int32) d_Realm_met_2 (by decide) ?_
  refine g_istore_n (pc := 3) [(2, .int (0 : Int32)), (1, .int (0 : Int32)), (0, .ref a0)] d_Realm_met_3 rfl (Nat.le_of_ble_eq_true rfl) rfl ?_
  refine g_lv [2, 1, 0] rfl ?_
  exact t_Realm_met_4  FU _ _ _ _ _ _  hf
def f_Realm_met (a0 : Nat) (h : mH) : Option (Int32 × mH) := f_Realm_met_0 a0 h
theorem c_Realm_met {sc : Nat × (Nat → Int32)} {a0 : Nat} {h : mH} {r : Int32} {h' : mH} (hf : f_Realm_met a0 h = some (r, h')) : MM sc y_Realm_met prog_5_method_23_code 3 (some .int) 2 45 [.ref a0] h (some (.int r)) h' :=
  mm_of_G (by decide) (Nat.le_of_ble_eq_true rfl) (t_Realm_met_0 _ _ _ _ hf)
/-! Q selfish (I)I -/
set_option maxRecDepth 100000 in
theorem dd_Q_selfish_0 : (decode prog_1_method_26_code 0 = .ok (.iload_n 1, 1)) ∧ (decode prog_1_method_26_code 1 = .ok (.iconst 0, 1)) ∧ (decode prog_1_method_26_code 2 = .ok (.iconst 2, 1)) ∧ (decode prog_1_method_26_code 3 = .ok (.invokestatic 62, 3)) ∧ (decode prog_1_method_26_code 6 = .ok (.ifCond .ne 5, 3)) ∧ (decode prog_1_method_26_code 9 = .ok (.iconst (-1), 1)) ∧ (decode prog_1_method_26_code 10 = .ok (.ireturn, 1)) ∧ (decode prog_1_method_26_code 11 = .ok (.aload_n 0, 1)) ∧ (decode prog_1_method_26_code 12 = .ok (.getfield 23, 3)) ∧ (decode prog_1_method_26_code 15 = .ok (.aload_n 0, 1)) ∧ (decode prog_1_method_26_code 16 = .ok (.getfield 19, 3)) ∧ (decode prog_1_method_26_code 19 = .ok (.invokevirtual 81, 3)) ∧ (decode prog_1_method_26_code 22 = .ok (.aload_n 0, 1)) ∧ (decode prog_1_method_26_code 23 = .ok (.getfield 23, 3)) ∧ (decode prog_1_method_26_code 26 = .ok (.invokevirtual 217, 3)) ∧ (decode prog_1_method_26_code 29 = .ok (.istore_n 2, 1)) ∧ (decode prog_1_method_26_code 30 = .ok (.iload_n 1, 1)) ∧ (decode prog_1_method_26_code 31 = .ok (.lookupswitch 35 #[(0, 25), (1, 33)], 25)) ∧ (decode prog_1_method_26_code 56 = .ok (.aload_n 0, 1)) ∧ (decode prog_1_method_26_code 57 = .ok (.getfield 23, 3)) ∧ (decode prog_1_method_26_code 60 = .ok (.invokevirtual 220, 3)) ∧ (decode prog_1_method_26_code 63 = .ok (.ireturn, 1)) ∧ (decode prog_1_method_26_code 64 = .ok (.iload_n 2, 1)) ∧ (decode prog_1_method_26_code 65 = .ok (.ireturn, 1)) := by
  have h : List.drop 0 prog_1_method_26_code.data.toList = 0x1b :: _ := rfl
  refine ⟨zq_k_n 27 h rfl (zq_o_27 _), ?_⟩
  replace h := zq_nx1 (q := 1) h rfl
  refine ⟨zq_k_n 3 h rfl (zq_o_3 _), ?_⟩
  replace h := zq_nx1 (q := 2) h rfl
  refine ⟨zq_k_n 5 h rfl (zq_o_5 _), ?_⟩
  replace h := zq_nx1 (q := 3) h rfl
  refine ⟨zq_k_u2 184 (fun z => .invokestatic z) 62 h rfl (zq_o_184 _) (by decide +kernel), ?_⟩
  replace h := zq_nx3 (q := 6) h rfl
  refine ⟨zq_k_s2 154 (fun z => .ifCond .ne z) 5 h rfl (zq_o_154 _) (by decide +kernel), ?_⟩
  replace h := zq_nx3 (q := 9) h rfl
  refine ⟨zq_k_n 2 h rfl (zq_o_2 _), ?_⟩
  replace h := zq_nx1 (q := 10) h rfl
  refine ⟨zq_k_n 172 h rfl (zq_o_172 _), ?_⟩
  replace h := zq_nx1 (q := 11) h rfl
  refine ⟨zq_k_n 42 h rfl (zq_o_42 _), ?_⟩
  replace h := zq_nx1 (q := 12) h rfl
  refine ⟨zq_k_u2 180 (fun z => .getfield z) 23 h rfl (zq_o_180 _) (by decide +kernel), ?_⟩
  replace h := zq_nx3 (q := 15) h rfl
  refine ⟨zq_k_n 42 h rfl (zq_o_42 _), ?_⟩
  replace h := zq_nx1 (q := 16) h rfl
  refine ⟨zq_k_u2 180 (fun z => .getfield z) 19 h rfl (zq_o_180 _) (by decide +kernel), ?_⟩
  replace h := zq_nx3 (q := 19) h rfl
  refine ⟨zq_k_u2 182 (fun z => .invokevirtual z) 81 h rfl (zq_o_182 _) (by decide +kernel), ?_⟩
  replace h := zq_nx3 (q := 22) h rfl
  refine ⟨zq_k_n 42 h rfl (zq_o_42 _), ?_⟩
  replace h := zq_nx1 (q := 23) h rfl
  refine ⟨zq_k_u2 180 (fun z => .getfield z) 23 h rfl (zq_o_180 _) (by decide +kernel), ?_⟩
  replace h := zq_nx3 (q := 26) h rfl
  refine ⟨zq_k_u2 182 (fun z => .invokevirtual z) 217 h rfl (zq_o_182 _) (by decide +kernel), ?_⟩
  replace h := zq_nx3 (q := 29) h rfl
  refine ⟨zq_k_n 61 h rfl (zq_o_61 _), ?_⟩
  replace h := zq_nx1 (q := 30) h rfl
  refine ⟨zq_k_n 27 h rfl (zq_o_27 _), ?_⟩
  replace h := zq_nx1 (q := 31) h rfl
  refine ⟨by decide +kernel, ?_⟩
  have h : List.drop 56 prog_1_method_26_code.data.toList = 0x2a :: _ := rfl
  refine ⟨zq_k_n 42 h rfl (zq_o_42 _), ?_⟩
  replace h := zq_nx1 (q := 57) h rfl
  refine ⟨zq_k_u2 180 (fun z => .getfield z) 23 h rfl (zq_o_180 _) (by decide +kernel), ?_⟩
  replace h := zq_nx3 (q := 60) h rfl
  refine ⟨zq_k_u2 182 (fun z => .invokevirtual z) 220 h rfl (zq_o_182 _) (by decide +kernel), ?_⟩
  replace h := zq_nx3 (q := 63) h rfl
  refine ⟨zq_k_n 172 h rfl (zq_o_172 _), ?_⟩
  replace h := zq_nx1 (q := 64) h rfl
  refine ⟨zq_k_n 28 h rfl (zq_o_28 _), ?_⟩
  replace h := zq_nx1 (q := 65) h rfl
  exact zq_k_n 172 h rfl (zq_o_172 _)
theorem d_Q_selfish_0 : decode prog_1_method_26_code 0 = .ok (.iload_n 1, 1) := dd_Q_selfish_0.1
theorem d_Q_selfish_1 : decode prog_1_method_26_code 1 = .ok (.iconst 0, 1) := dd_Q_selfish_0.2.1
theorem d_Q_selfish_2 : decode prog_1_method_26_code 2 = .ok (.iconst 2, 1) := dd_Q_selfish_0.2.2.1
theorem d_Q_selfish_3 : decode prog_1_method_26_code 3 = .ok (.invokestatic 62, 3) := dd_Q_selfish_0.2.2.2.1
theorem d_Q_selfish_6 : decode prog_1_method_26_code 6 = .ok (.ifCond .ne 5, 3) := dd_Q_selfish_0.2.2.2.2.1
theorem d_Q_selfish_9 : decode prog_1_method_26_code 9 = .ok (.iconst (-1), 1) := dd_Q_selfish_0.2.2.2.2.2.1
theorem d_Q_selfish_10 : decode prog_1_method_26_code 10 = .ok (.ireturn, 1) := dd_Q_selfish_0.2.2.2.2.2.2.1
theorem d_Q_selfish_11 : decode prog_1_method_26_code 11 = .ok (.aload_n 0, 1) := dd_Q_selfish_0.2.2.2.2.2.2.2.1
theorem d_Q_selfish_12 : decode prog_1_method_26_code 12 = .ok (.getfield 23, 3) := dd_Q_selfish_0.2.2.2.2.2.2.2.2.1
theorem d_Q_selfish_15 : decode prog_1_method_26_code 15 = .ok (.aload_n 0, 1) := dd_Q_selfish_0.2.2.2.2.2.2.2.2.2.1
theorem d_Q_selfish_16 : decode prog_1_method_26_code 16 = .ok (.getfield 19, 3) := dd_Q_selfish_0.2.2.2.2.2.2.2.2.2.2.1
theorem d_Q_selfish_19 : decode prog_1_method_26_code 19 = .ok (.invokevirtual 81, 3) := dd_Q_selfish_0.2.2.2.2.2.2.2.2.2.2.2.1
theorem d_Q_selfish_22 : decode prog_1_method_26_code 22 = .ok (.aload_n 0, 1) := dd_Q_selfish_0.2.2.2.2.2.2.2.2.2.2.2.2.1
theorem d_Q_selfish_23 : decode prog_1_method_26_code 23 = .ok (.getfield 23, 3) := dd_Q_selfish_0.2.2.2.2.2.2.2.2.2.2.2.2.2.1
theorem d_Q_selfish_26 : decode prog_1_method_26_code 26 = .ok (.invokevirtual 217, 3) := dd_Q_selfish_0.2.2.2.2.2.2.2.2.2.2.2.2.2.2.1
theorem d_Q_selfish_29 : decode prog_1_method_26_code 29 = .ok (.istore_n 2, 1) := dd_Q_selfish_0.2.2.2.2.2.2.2.2.2.2.2.2.2.2.2.1
theorem d_Q_selfish_30 : decode prog_1_method_26_code 30 = .ok (.iload_n 1, 1) := dd_Q_selfish_0.2.2.2.2.2.2.2.2.2.2.2.2.2.2.2.2.1
theorem d_Q_selfish_31 : decode prog_1_method_26_code 31 = .ok (.lookupswitch 35 #[(0, 25), (1, 33)], 25) := dd_Q_selfish_0.2.2.2.2.2.2.2.2.2.2.2.2.2.2.2.2.2.1
theorem d_Q_selfish_56 : decode prog_1_method_26_code 56 = .ok (.aload_n 0, 1) := dd_Q_selfish_0.2.2.2.2.2.2.2.2.2.2.2.2.2.2.2.2.2.2.1
theorem d_Q_selfish_57 : decode prog_1_method_26_code 57 = .ok (.getfield 23, 3) := dd_Q_selfish_0.2.2.2.2.2.2.2.2.2.2.2.2.2.2.2.2.2.2.2.1
theorem d_Q_selfish_60 : decode prog_1_method_26_code 60 = .ok (.invokevirtual 220, 3) := dd_Q_selfish_0.2.2.2.2.2.2.2.2.2.2.2.2.2.2.2.2.2.2.2.2.1
theorem d_Q_selfish_63 : decode prog_1_method_26_code 63 = .ok (.ireturn, 1) := dd_Q_selfish_0.2.2.2.2.2.2.2.2.2.2.2.2.2.2.2.2.2.2.2.2.2.1
theorem d_Q_selfish_64 : decode prog_1_method_26_code 64 = .ok (.iload_n 2, 1) := dd_Q_selfish_0.2.2.2.2.2.2.2.2.2.2.2.2.2.2.2.2.2.2.2.2.2.2.1
theorem d_Q_selfish_65 : decode prog_1_method_26_code 65 = .ok (.ireturn, 1) := dd_Q_selfish_0.2.2.2.2.2.2.2.2.2.2.2.2.2.2.2.2.2.2.2.2.2.2.2
set_option maxRecDepth 100000 in
theorem dd_Q_selfish_66 : (decode prog_1_method_26_code 66 = .ok (.aload_n 0, 1)) ∧ (decode prog_1_method_26_code 67 = .ok (.getfield 23, 3)) ∧ (decode prog_1_method_26_code 70 = .ok (.getfield 100, 3)) ∧ (decode prog_1_method_26_code 73 = .ok (.aload_n 0, 1)) ∧ (decode prog_1_method_26_code 74 = .ok (.getfield 19, 3)) ∧ (decode prog_1_method_26_code 77 = .ok (.getfield 100, 3)) ∧ (decode prog_1_method_26_code 80 = .ok (.isub, 1)) ∧ (decode prog_1_method_26_code 81 = .ok (.ireturn, 1)) := by
  have h : List.drop 66 prog_1_method_26_code.data.toList = 0x2a :: _ := rfl
  refine ⟨zq_k_n 42 h rfl (zq_o_42 _), ?_⟩
  replace h := zq_nx1 (q := 67) h rfl
  refine ⟨zq_k_u2 180 (fun z => .getfield z) 23 h rfl (zq_o_180 _) (by decide +kernel), ?_⟩
  replace h := zq_nx3 (q := 70) h rfl
  refine ⟨zq_k_u2 180 (fun z => .getfield z) 100 h rfl (zq_o_180 _) (by decide +kernel), ?_⟩
  replace h := zq_nx3 (q := 73) h rfl
  refine ⟨zq_k_n 42 h rfl (zq_o_42 _), ?_⟩
  replace h := zq_nx1 (q := 74) h rfl
  refine ⟨zq_k_u2 180 (fun z => .getfield z) 19 h rfl (zq_o_180 _) (by decide +kernel), ?_⟩
  replace h := zq_nx3 (q := 77) h rfl
  refine ⟨zq_k_u2 180 (fun z => .getfield z) 100 h rfl (zq_o_180 _) (by decide +kernel), ?_⟩
  replace h := zq_nx3 (q := 80) h rfl
  refine ⟨zq_k_n 100 h rfl (zq_o_100 _), ?_⟩
  replace h := zq_nx1 (q := 81) h rfl
  exact zq_k_n 172 h rfl (zq_o_172 _)
theorem d_Q_selfish_66 : decode prog_1_method_26_code 66 = .ok (.aload_n 0, 1) := dd_Q_selfish_66.1
theorem d_Q_selfish_67 : decode prog_1_method_26_code 67 = .ok (.getfield 23, 3) := dd_Q_selfish_66.2.1
theorem d_Q_selfish_70 : decode prog_1_method_26_code 70 = .ok (.getfield 100, 3) := dd_Q_selfish_66.2.2.1
theorem d_Q_selfish_73 : decode prog_1_method_26_code 73 = .ok (.aload_n 0, 1) := dd_Q_selfish_66.2.2.2.1
theorem d_Q_selfish_74 : decode prog_1_method_26_code 74 = .ok (.getfield 19, 3) := dd_Q_selfish_66.2.2.2.2.1
theorem d_Q_selfish_77 : decode prog_1_method_26_code 77 = .ok (.getfield 100, 3) := dd_Q_selfish_66.2.2.2.2.2.1
theorem d_Q_selfish_80 : decode prog_1_method_26_code 80 = .ok (.isub, 1) := dd_Q_selfish_66.2.2.2.2.2.2.1
theorem d_Q_selfish_81 : decode prog_1_method_26_code 81 = .ok (.ireturn, 1) := dd_Q_selfish_66.2.2.2.2.2.2.2
def f_Q_selfish_0  (a0 : Nat) (a1 : Int32) (h : mH) : Option (Int32 × mH) :=
  bd2 (f_Q_isWithin a1 (0 : Int32) (2 : Int32) h) fun x3 h1 =>
  if x3 = 0 then
    some (((-1) : Int32), h1)
  else
    bd1 (gR h1 a0 0 2) fun x4 =>
    bd1 (gR h1 a0 0 1) fun x6 =>
    bd1 (kC h1 x4 4) fun _ =>
    bd1 (f_Realm_copyFrom x4 x6 h1) fun h10 =>
    bd1 (gR h10 a0 0 2) fun x12 =>
    bd1 (kC h10 x12 4) fun _ =>
    bd2 (f_Realm_eachForHimself x12 h10) fun x18 h16 =>
    if a1 = (0 : Int32) then
      bd1 (gR h16 a0 0 2) fun x20 =>
      bd1 (kC h16 x20 4) fun _ =>
      bd2 (f_Realm_met x20 h16) fun x26 h24 =>
      some (x26, h24)
    else
    if a1 = (1 : Int32) then
      some (x18, h16)
    else
    bd1 (gR h16 a0 0 2) fun x28 =>
    bd1 (gI h16 x28 4 3) fun x30 =>
    bd1 (gR h16 a0 0 1) fun x32 =>
    bd1 (gI h16 x32 4 3) fun x34 =>
    some (x30 - x34, h16)
set_option maxRecDepth 20000 in
theorem t_Q_selfish_0 {sc : Nat × (Nat → Int32)}  (a0 : Nat) (a1 : Int32) (h : mH) (r : Int32) (h' : mH) (hf : f_Q_selfish_0  a0 a1 h = some (r, h')) : G sc y_Q_selfish prog_1_method_26_code 3 (some .int) 6 140 0 [(0, .ref a0), (1, .int a1)] [] h (some (.int r)) h' := by
  unfold f_Q_selfish_0 at hf
  refine g_iload_n (pc := 0) 1 d_Q_selfish_0 rfl rfl ?_
  refine g_iconst (pc := 1) (0 : Int32) d_Q_selfish_1 (by decide) ?_
  refine g_iconst (pc := 2) (2 : Int32) d_Q_selfish_2 (by decide) ?_
  obtain ⟨x3, h1, e2, hf⟩ := bd2_e hf
  refine g_callS (pc := 3) [.int a1, .int (0 : Int32), .int (2 : Int32)] (site_of si_Q_isWithin (by decide) (by decide)) wd_331 wd_332 d_Q_selfish_3 (Nat.le_of_ble_eq_true rfl) (fun z => absurd z (by decide)) (fun z => absurd z (by decide)) (fun z => absurd z (by decide)) (c_Q_isWithin e2) rfl ?_
  refine g_st [.int x3] rfl ?_
  refine g_ifne (pc := 6) 11 d_Q_selfish_6 (by decide) (fun c36 => ?_) (fun c36 => ?_)
  · replace hf := (if_neg c36).symm.trans hf
    refine g_aload_n (pc := 11) 0 d_Q_selfish_11 rfl rfl ?_
    obtain ⟨x4, e5, hf⟩ := bd1_e hf
    refine g_get (pc := 12) (ci := 0) (kk := 2) d_Q_selfish_12 rfl in_Q (by decide) wd_298 (gR_spec e5) ?_
    refine g_aload_n (pc := 15) 0 d_Q_selfish_15 rfl rfl ?_
    obtain ⟨x6, e7, hf⟩ := bd1_e hf
    refine g_get (pc := 16) (ci := 0) (kk := 1) d_Q_selfish_16 rfl in_Q (by decide) wd_297 (gR_spec e7) ?_
    obtain ⟨u9, e8, hf⟩ := bd1_e hf
    obtain ⟨h10, e11, hf⟩ := bd1_e hf
    refine g_callV (pc := 19) (ci := 4) [.ref x6] (site_of si_Realm_copyFrom (by decide) (by decide)) wd_495 wd_496 wd_497 d_Q_selfish_19 rfl e8 (Nat.le_of_ble_eq_true rfl) (fun z => absurd z (by decide)) (fun z => absurd z (by decide)) (fun z => absurd z (by decide)) (c_Realm_copyFrom e11) rfl ?_
    refine g_st [] rfl ?_
    refine g_aload_n (pc := 22) 0 d_Q_selfish_22 rfl rfl ?_
    obtain ⟨x12, e13, hf⟩ := bd1_e hf
    refine g_get (pc := 23) (ci := 0) (kk := 2) d_Q_selfish_23 rfl in_Q (by decide) wd_298 (gR_spec e13) ?_
    obtain ⟨u15, e14, hf⟩ := bd1_e hf
    obtain ⟨x18, h16, e17, hf⟩ := bd2_e hf
    refine g_callV (pc := 26) (ci := 4) [] (site_of si_Realm_eachForHimself (by decide) (by decide)) wd_732 wd_733 wd_734 d_Q_selfish_26 rfl e14 (Nat.le_of_ble_eq_true rfl) (fun z => absurd z (by decide)) (fun z => absurd z (by decide)) (fun z => absurd z (by decide)) (c_Realm_eachForHimself e17) rfl ?_
    refine g_st [.int x18] rfl ?_
    refine g_istore_n (pc := 29) [(2, .int x18), (0, .ref a0), (1, .int a1)] d_Q_selfish_29 rfl (Nat.le_of_ble_eq_true rfl) rfl ?_
    refine g_iload_n (pc := 30) 2 d_Q_selfish_30 rfl rfl ?_
    by_cases c19 : a1 = (0 : Int32)
    · replace hf := (if_pos c19).symm.trans hf
      refine g_lookIn (pc := 31) 56 (0 : Int32) d_Q_selfish_31 c19 rfl (by decide) ?_
      refine g_aload_n (pc := 56) 1 d_Q_selfish_56 rfl rfl ?_
      obtain ⟨x20, e21, hf⟩ := bd1_e hf
      refine g_get (pc := 57) (ci := 0) (kk := 2) d_Q_selfish_57 rfl in_Q (by decide) wd_298 (gR_spec e21) ?_
      obtain ⟨u23, e22, hf⟩ := bd1_e hf
      obtain ⟨x26, h24, e25, hf⟩ := bd2_e hf
      refine g_callV (pc := 60) (ci := 4) [] (site_of si_Realm_met (by decide) (by decide)) wd_741 wd_742 wd_743 d_Q_selfish_60 rfl e22 (Nat.le_of_ble_eq_true rfl) (fun z => absurd z (by decide)) (fun z => absurd z (by decide)) (fun z => absurd z (by decide)) (c_Realm_met e25) rfl ?_
      refine g_st [.int x26] rfl ?_
      obtain ⟨rfl, rfl⟩ := ret2 hf
      exact g_iret (pc := 63) rfl d_Q_selfish_63
    replace hf := (if_neg c19).symm.trans hf
    by_cases c27 : a1 = (1 : Int32)
    · replace hf := (if_pos c27).symm.trans hf
      refine g_lookIn (pc := 31) 64 (1 : Int32) d_Q_selfish_31 c27 rfl (by decide) ?_
      refine g_iload_n (pc := 64) 0 d_Q_selfish_64 rfl rfl ?_
      obtain ⟨rfl, rfl⟩ := ret2 hf
      exact g_iret (pc := 65) rfl d_Q_selfish_65
    replace hf := (if_neg c27).symm.trans hf
    refine g_lookOut (pc := 31) 66 d_Q_selfish_31 rfl (fun q hq => ?_) (by decide) ?_
    · rcases (show q = (0, 25) ∨ q = (1, 33) by simpa using hq) with rfl | rfl
      · exact c19
      · exact c27
    refine g_aload_n (pc := 66) 1 d_Q_selfish_66 rfl rfl ?_
    obtain ⟨x28, e29, hf⟩ := bd1_e hf
    refine g_get (pc := 67) (ci := 0) (kk := 2) d_Q_selfish_67 rfl in_Q (by decide) wd_298 (gR_spec e29) ?_
    obtain ⟨x30, e31, hf⟩ := bd1_e hf
    refine g_get (pc := 70) (ci := 4) (kk := 3) d_Q_selfish_70 rfl in_Realm (by decide) wd_106 (gI_spec e31) ?_
    refine g_aload_n (pc := 73) 1 d_Q_selfish_73 rfl rfl ?_
    obtain ⟨x32, e33, hf⟩ := bd1_e hf
    refine g_get (pc := 74) (ci := 0) (kk := 1) d_Q_selfish_74 rfl in_Q (by decide) wd_297 (gR_spec e33) ?_
    obtain ⟨x34, e35, hf⟩ := bd1_e hf
    refine g_get (pc := 77) (ci := 4) (kk := 3) d_Q_selfish_77 rfl in_Realm (by decide) wd_106 (gI_spec e35) ?_
    refine g_isub (pc := 80) d_Q_selfish_80 ?_
    obtain ⟨rfl, rfl⟩ := ret2 hf
    exact g_iret (pc := 81) rfl d_Q_selfish_81
  · replace hf := (if_pos c36).symm.trans hf
    refine g_iconst (pc := 9) ((-1) : Int32) d_Q_selfish_9 (by decide) ?_
    obtain ⟨rfl, rfl⟩ := ret2 hf
    exact g_iret (pc := 10) rfl d_Q_selfish_10
def f_Q_selfish (a0 : Nat) (a1 : Int32) (h : mH) : Option (Int32 × mH) := f_Q_selfish_0 a0 a1 h
theorem c_Q_selfish {sc : Nat × (Nat → Int32)} {a0 : Nat} {a1 : Int32} {h : mH} {r : Int32} {h' : mH} (hf : f_Q_selfish a0 a1 h = some (r, h')) : MM sc y_Q_selfish prog_1_method_26_code 3 (some .int) 6 140 [.ref a0, .int a1] h (some (.int r)) h' :=
  mm_of_G (by decide) (Nat.le_of_ble_eq_true rfl) (t_Q_selfish_0 _ _ _ _ _ hf)
/-! Odds addTry (I)V -/
set_option maxRecDepth 100000 in
theorem dd_Odds_addTry_0 : (decode prog_2_method_3_code 0 = .ok (.bipush 9, 2)) ∧ (decode prog_2_method_3_code 2 = .ok (.istore_n 2, 1)) ∧ (decode prog_2_method_3_code 3 = .ok (.iload_n 2, 1)) ∧ (decode prog_2_method_3_code 4 = .ok (.ifCond .le 39, 3)) ∧ (decode prog_2_method_3_code 7 = .ok (.aload_n 0, 1)) ∧ (decode prog_2_method_3_code 8 = .ok (.getfield 11, 3)) ∧ (decode prog_2_method_3_code 11 = .ok (.iload_n 2, 1)) ∧ (decode prog_2_method_3_code 12 = .ok (.aload_n 0, 1)) ∧ (decode prog_2_method_3_code 13 = .ok (.getfield 11, 3)) ∧ (decode prog_2_method_3_code 16 = .ok (.iload_n 2, 1)) ∧ (decode prog_2_method_3_code 17 = .ok (.laload, 1)) ∧ (decode prog_2_method_3_code 18 = .ok (.bipush 10, 2)) ∧ (decode prog_2_method_3_code 20 = .ok (.iload_n 1, 1)) ∧ (decode prog_2_method_3_code 21 = .ok (.isub, 1)) ∧ (decode prog_2_method_3_code 22 = .ok (.i2l, 1)) ∧ (decode prog_2_method_3_code 23 = .ok (.lmul, 1)) ∧ (decode prog_2_method_3_code 24 = .ok (.aload_n 0, 1)) ∧ (decode prog_2_method_3_code 25 = .ok (.getfield 11, 3)) ∧ (decode prog_2_method_3_code 28 = .ok (.iload_n 2, 1)) ∧ (decode prog_2_method_3_code 29 = .ok (.iconst 1, 1)) ∧ (decode prog_2_method_3_code 30 = .ok (.isub, 1)) ∧ (decode prog_2_method_3_code 31 = .ok (.laload, 1)) ∧ (decode prog_2_method_3_code 32 = .ok (.iload_n 1, 1)) ∧ (decode prog_2_method_3_code 33 = .ok (.i2l, 1)) := by
  have h : List.drop 0 prog_2_method_3_code.data.toList = 0x10 :: _ := rfl
  refine ⟨zq_k_s1 16 (fun z => .bipush z) 9 h rfl (zq_o_16 _) (by decide +kernel), ?_⟩
  replace h := zq_nx2 (q := 2) h rfl
  refine ⟨zq_k_n 61 h rfl (zq_o_61 _), ?_⟩
  replace h := zq_nx1 (q := 3) h rfl
  refine ⟨zq_k_n 28 h rfl (zq_o_28 _), ?_⟩
  replace h := zq_nx1 (q := 4) h rfl
  refine ⟨zq_k_s2 158 (fun z => .ifCond .le z) 39 h rfl (zq_o_158 _) (by decide +kernel), ?_⟩
  replace h := zq_nx3 (q := 7) h rfl
  refine ⟨zq_k_n 42 h rfl (zq_o_42 _), ?_⟩
  replace h := zq_nx1 (q := 8) h rfl
  refine ⟨zq_k_u2 180 (fun z => .getfield z) 11 h rfl (zq_o_180 _) (by decide +kernel), ?_⟩
  replace h := zq_nx3 (q := 11) h rfl
  refine ⟨zq_k_n 28 h rfl (zq_o_28 _), ?_⟩
  replace h := zq_nx1 (q := 12) h rfl
  refine ⟨zq_k_n 42 h rfl (zq_o_42 _), ?_⟩
  replace h := zq_nx1 (q := 13) h rfl
  refine ⟨zq_k_u2 180 (fun z => .getfield z) 11 h rfl (zq_o_180 _) (by decide +kernel), ?_⟩
  replace h := zq_nx3 (q := 16) h rfl
  refine ⟨zq_k_n 28 h rfl (zq_o_28 _), ?_⟩
  replace h := zq_nx1 (q := 17) h rfl
  refine ⟨zq_k_n 47 h rfl (zq_o_47 _), ?_⟩
  replace h := zq_nx1 (q := 18) h rfl
  refine ⟨zq_k_s1 16 (fun z => .bipush z) 10 h rfl (zq_o_16 _) (by decide +kernel), ?_⟩
  replace h := zq_nx2 (q := 20) h rfl
  refine ⟨zq_k_n 27 h rfl (zq_o_27 _), ?_⟩
  replace h := zq_nx1 (q := 21) h rfl
  refine ⟨zq_k_n 100 h rfl (zq_o_100 _), ?_⟩
  replace h := zq_nx1 (q := 22) h rfl
  refine ⟨zq_k_n 133 h rfl (zq_o_133 _), ?_⟩
  replace h := zq_nx1 (q := 23) h rfl
  refine ⟨zq_k_n 105 h rfl (zq_o_105 _), ?_⟩
  replace h := zq_nx1 (q := 24) h rfl
  refine ⟨zq_k_n 42 h rfl (zq_o_42 _), ?_⟩
  replace h := zq_nx1 (q := 25) h rfl
  refine ⟨zq_k_u2 180 (fun z => .getfield z) 11 h rfl (zq_o_180 _) (by decide +kernel), ?_⟩
  replace h := zq_nx3 (q := 28) h rfl
  refine ⟨zq_k_n 28 h rfl (zq_o_28 _), ?_⟩
  replace h := zq_nx1 (q := 29) h rfl
  refine ⟨zq_k_n 4 h rfl (zq_o_4 _), ?_⟩
  replace h := zq_nx1 (q := 30) h rfl
  refine ⟨zq_k_n 100 h rfl (zq_o_100 _), ?_⟩
  replace h := zq_nx1 (q := 31) h rfl
  refine ⟨zq_k_n 47 h rfl (zq_o_47 _), ?_⟩
  replace h := zq_nx1 (q := 32) h rfl
  refine ⟨zq_k_n 27 h rfl (zq_o_27 _), ?_⟩
  replace h := zq_nx1 (q := 33) h rfl
  exact zq_k_n 133 h rfl (zq_o_133 _)
theorem d_Odds_addTry_0 : decode prog_2_method_3_code 0 = .ok (.bipush 9, 2) := dd_Odds_addTry_0.1
theorem d_Odds_addTry_2 : decode prog_2_method_3_code 2 = .ok (.istore_n 2, 1) := dd_Odds_addTry_0.2.1
theorem d_Odds_addTry_3 : decode prog_2_method_3_code 3 = .ok (.iload_n 2, 1) := dd_Odds_addTry_0.2.2.1
theorem d_Odds_addTry_4 : decode prog_2_method_3_code 4 = .ok (.ifCond .le 39, 3) := dd_Odds_addTry_0.2.2.2.1
theorem d_Odds_addTry_7 : decode prog_2_method_3_code 7 = .ok (.aload_n 0, 1) := dd_Odds_addTry_0.2.2.2.2.1
theorem d_Odds_addTry_8 : decode prog_2_method_3_code 8 = .ok (.getfield 11, 3) := dd_Odds_addTry_0.2.2.2.2.2.1
theorem d_Odds_addTry_11 : decode prog_2_method_3_code 11 = .ok (.iload_n 2, 1) := dd_Odds_addTry_0.2.2.2.2.2.2.1
theorem d_Odds_addTry_12 : decode prog_2_method_3_code 12 = .ok (.aload_n 0, 1) := dd_Odds_addTry_0.2.2.2.2.2.2.2.1
theorem d_Odds_addTry_13 : decode prog_2_method_3_code 13 = .ok (.getfield 11, 3) := dd_Odds_addTry_0.2.2.2.2.2.2.2.2.1
theorem d_Odds_addTry_16 : decode prog_2_method_3_code 16 = .ok (.iload_n 2, 1) := dd_Odds_addTry_0.2.2.2.2.2.2.2.2.2.1
theorem d_Odds_addTry_17 : decode prog_2_method_3_code 17 = .ok (.laload, 1) := dd_Odds_addTry_0.2.2.2.2.2.2.2.2.2.2.1
theorem d_Odds_addTry_18 : decode prog_2_method_3_code 18 = .ok (.bipush 10, 2) := dd_Odds_addTry_0.2.2.2.2.2.2.2.2.2.2.2.1
theorem d_Odds_addTry_20 : decode prog_2_method_3_code 20 = .ok (.iload_n 1, 1) := dd_Odds_addTry_0.2.2.2.2.2.2.2.2.2.2.2.2.1
theorem d_Odds_addTry_21 : decode prog_2_method_3_code 21 = .ok (.isub, 1) := dd_Odds_addTry_0.2.2.2.2.2.2.2.2.2.2.2.2.2.1
theorem d_Odds_addTry_22 : decode prog_2_method_3_code 22 = .ok (.i2l, 1) := dd_Odds_addTry_0.2.2.2.2.2.2.2.2.2.2.2.2.2.2.1
theorem d_Odds_addTry_23 : decode prog_2_method_3_code 23 = .ok (.lmul, 1) := dd_Odds_addTry_0.2.2.2.2.2.2.2.2.2.2.2.2.2.2.2.1
theorem d_Odds_addTry_24 : decode prog_2_method_3_code 24 = .ok (.aload_n 0, 1) := dd_Odds_addTry_0.2.2.2.2.2.2.2.2.2.2.2.2.2.2.2.2.1
theorem d_Odds_addTry_25 : decode prog_2_method_3_code 25 = .ok (.getfield 11, 3) := dd_Odds_addTry_0.2.2.2.2.2.2.2.2.2.2.2.2.2.2.2.2.2.1
theorem d_Odds_addTry_28 : decode prog_2_method_3_code 28 = .ok (.iload_n 2, 1) := dd_Odds_addTry_0.2.2.2.2.2.2.2.2.2.2.2.2.2.2.2.2.2.2.1
theorem d_Odds_addTry_29 : decode prog_2_method_3_code 29 = .ok (.iconst 1, 1) := dd_Odds_addTry_0.2.2.2.2.2.2.2.2.2.2.2.2.2.2.2.2.2.2.2.1
theorem d_Odds_addTry_30 : decode prog_2_method_3_code 30 = .ok (.isub, 1) := dd_Odds_addTry_0.2.2.2.2.2.2.2.2.2.2.2.2.2.2.2.2.2.2.2.2.1
theorem d_Odds_addTry_31 : decode prog_2_method_3_code 31 = .ok (.laload, 1) := dd_Odds_addTry_0.2.2.2.2.2.2.2.2.2.2.2.2.2.2.2.2.2.2.2.2.2.1
theorem d_Odds_addTry_32 : decode prog_2_method_3_code 32 = .ok (.iload_n 1, 1) := dd_Odds_addTry_0.2.2.2.2.2.2.2.2.2.2.2.2.2.2.2.2.2.2.2.2.2.2.1
theorem d_Odds_addTry_33 : decode prog_2_method_3_code 33 = .ok (.i2l, 1) := dd_Odds_addTry_0.2.2.2.2.2.2.2.2.2.2.2.2.2.2.2.2.2.2.2.2.2.2.2
set_option maxRecDepth 100000 in
theorem dd_Odds_addTry_34 : (decode prog_2_method_3_code 34 = .ok (.lmul, 1)) ∧ (decode prog_2_method_3_code 35 = .ok (.ladd, 1)) ∧ (decode prog_2_method_3_code 36 = .ok (.lastore, 1)) ∧ (decode prog_2_method_3_code 37 = .ok (.iinc 2 (-1), 3)) ∧ (decode prog_2_method_3_code 40 = .ok (.goto (-37), 3)) ∧ (decode prog_2_method_3_code 43 = .ok (.aload_n 0, 1)) ∧ (decode prog_2_method_3_code 44 = .ok (.getfield 11, 3)) ∧ (decode prog_2_method_3_code 47 = .ok (.iconst 0, 1)) ∧ (decode prog_2_method_3_code 48 = .ok (.dup2, 1)) ∧ (decode prog_2_method_3_code 49 = .ok (.laload, 1)) ∧ (decode prog_2_method_3_code 50 = .ok (.bipush 10, 2)) ∧ (decode prog_2_method_3_code 52 = .ok (.iload_n 1, 1)) ∧ (decode prog_2_method_3_code 53 = .ok (.isub, 1)) ∧ (decode prog_2_method_3_code 54 = .ok (.i2l, 1)) ∧ (decode prog_2_method_3_code 55 = .ok (.lmul, 1)) ∧ (decode prog_2_method_3_code 56 = .ok (.lastore, 1)) ∧ (decode prog_2_method_3_code 57 = .ok (.aload_n 0, 1)) ∧ (decode prog_2_method_3_code 58 = .ok (.dup, 1)) ∧ (decode prog_2_method_3_code 59 = .ok (.getfield 21, 3)) ∧ (decode prog_2_method_3_code 62 = .ok (.ldc2_w 53, 3)) ∧ (decode prog_2_method_3_code 65 = .ok (.lmul, 1)) ∧ (decode prog_2_method_3_code 66 = .ok (.putfield 21, 3)) ∧ (decode prog_2_method_3_code 69 = .ok (.return_, 1)) := by
  have h : List.drop 34 prog_2_method_3_code.data.toList = 0x69 :: _ := rfl
  refine ⟨zq_k_n 105 h rfl (zq_o_105 _), ?_⟩
  replace h := zq_nx1 (q := 35) h rfl
  refine ⟨zq_k_n 97 h rfl (zq_o_97 _), ?_⟩
  replace h := zq_nx1 (q := 36) h rfl
  refine ⟨zq_k_n 80 h rfl (zq_o_80 _), ?_⟩
  replace h := zq_nx1 (q := 37) h rfl
  refine ⟨zq_k_iinc 2 (-1) h rfl (zq_o_132 _) (by decide +kernel) (by decide +kernel), ?_⟩
  replace h := zq_nx3 (q := 40) h rfl
  refine ⟨zq_k_s2 167 (fun z => .goto z) (-37) h rfl (zq_o_167 _) (by decide +kernel), ?_⟩
  replace h := zq_nx3 (q := 43) h rfl
  refine ⟨zq_k_n 42 h rfl (zq_o_42 _), ?_⟩
  replace h := zq_nx1 (q := 44) h rfl
  refine ⟨zq_k_u2 180 (fun z => .getfield z) 11 h rfl (zq_o_180 _) (by decide +kernel), ?_⟩
  replace h := zq_nx3 (q := 47) h rfl
  refine ⟨zq_k_n 3 h rfl (zq_o_3 _), ?_⟩
  replace h := zq_nx1 (q := 48) h rfl
  refine ⟨zq_k_n 92 h rfl (zq_o_92 _), ?_⟩
  replace h := zq_nx1 (q := 49) h rfl
  refine ⟨zq_k_n 47 h rfl (zq_o_47 _), ?_⟩
  replace h := zq_nx1 (q := 50) h rfl
  refine ⟨zq_k_s1 16 (fun z => .bipush z) 10 h rfl (zq_o_16 _) (by decide +kernel), ?_⟩
  replace h := zq_nx2 (q := 52) h rfl
  refine ⟨zq_k_n 27 h rfl (zq_o_27 _), ?_⟩
  replace h := zq_nx1 (q := 53) h rfl
  refine ⟨zq_k_n 100 h rfl (zq_o_100 _), ?_⟩
  replace h := zq_nx1 (q := 54) h rfl
  refine ⟨zq_k_n 133 h rfl (zq_o_133 _), ?_⟩
  replace h := zq_nx1 (q := 55) h rfl
  refine ⟨zq_k_n 105 h rfl (zq_o_105 _), ?_⟩
  replace h := zq_nx1 (q := 56) h rfl
  refine ⟨zq_k_n 80 h rfl (zq_o_80 _), ?_⟩
  replace h := zq_nx1 (q := 57) h rfl
  refine ⟨zq_k_n 42 h rfl (zq_o_42 _), ?_⟩
  replace h := zq_nx1 (q := 58) h rfl
  refine ⟨zq_k_n 89 h rfl (zq_o_89 _), ?_⟩
  replace h := zq_nx1 (q := 59) h rfl
  refine ⟨zq_k_u2 180 (fun z => .getfield z) 21 h rfl (zq_o_180 _) (by decide +kernel), ?_⟩
  replace h := zq_nx3 (q := 62) h rfl
  refine ⟨zq_k_u2 20 (fun z => .ldc2_w z) 53 h rfl (zq_o_20 _) (by decide +kernel), ?_⟩
  replace h := zq_nx3 (q := 65) h rfl
  refine ⟨zq_k_n 105 h rfl (zq_o_105 _), ?_⟩
  replace h := zq_nx1 (q := 66) h rfl
  refine ⟨zq_k_u2 181 (fun z => .putfield z) 21 h rfl (zq_o_181 _) (by decide +kernel), ?_⟩
  replace h := zq_nx3 (q := 69) h rfl
  exact zq_k_n 177 h rfl (zq_o_177 _)
theorem d_Odds_addTry_34 : decode prog_2_method_3_code 34 = .ok (.lmul, 1) := dd_Odds_addTry_34.1
theorem d_Odds_addTry_35 : decode prog_2_method_3_code 35 = .ok (.ladd, 1) := dd_Odds_addTry_34.2.1
theorem d_Odds_addTry_36 : decode prog_2_method_3_code 36 = .ok (.lastore, 1) := dd_Odds_addTry_34.2.2.1
theorem d_Odds_addTry_37 : decode prog_2_method_3_code 37 = .ok (.iinc 2 (-1), 3) := dd_Odds_addTry_34.2.2.2.1
theorem d_Odds_addTry_40 : decode prog_2_method_3_code 40 = .ok (.goto (-37), 3) := dd_Odds_addTry_34.2.2.2.2.1
theorem d_Odds_addTry_43 : decode prog_2_method_3_code 43 = .ok (.aload_n 0, 1) := dd_Odds_addTry_34.2.2.2.2.2.1
theorem d_Odds_addTry_44 : decode prog_2_method_3_code 44 = .ok (.getfield 11, 3) := dd_Odds_addTry_34.2.2.2.2.2.2.1
theorem d_Odds_addTry_47 : decode prog_2_method_3_code 47 = .ok (.iconst 0, 1) := dd_Odds_addTry_34.2.2.2.2.2.2.2.1
theorem d_Odds_addTry_48 : decode prog_2_method_3_code 48 = .ok (.dup2, 1) := dd_Odds_addTry_34.2.2.2.2.2.2.2.2.1
theorem d_Odds_addTry_49 : decode prog_2_method_3_code 49 = .ok (.laload, 1) := dd_Odds_addTry_34.2.2.2.2.2.2.2.2.2.1
theorem d_Odds_addTry_50 : decode prog_2_method_3_code 50 = .ok (.bipush 10, 2) := dd_Odds_addTry_34.2.2.2.2.2.2.2.2.2.2.1
theorem d_Odds_addTry_52 : decode prog_2_method_3_code 52 = .ok (.iload_n 1, 1) := dd_Odds_addTry_34.2.2.2.2.2.2.2.2.2.2.2.1
theorem d_Odds_addTry_53 : decode prog_2_method_3_code 53 = .ok (.isub, 1) := dd_Odds_addTry_34.2.2.2.2.2.2.2.2.2.2.2.2.1
theorem d_Odds_addTry_54 : decode prog_2_method_3_code 54 = .ok (.i2l, 1) := dd_Odds_addTry_34.2.2.2.2.2.2.2.2.2.2.2.2.2.1
theorem d_Odds_addTry_55 : decode prog_2_method_3_code 55 = .ok (.lmul, 1) := dd_Odds_addTry_34.2.2.2.2.2.2.2.2.2.2.2.2.2.2.1
theorem d_Odds_addTry_56 : decode prog_2_method_3_code 56 = .ok (.lastore, 1) := dd_Odds_addTry_34.2.2.2.2.2.2.2.2.2.2.2.2.2.2.2.1
theorem d_Odds_addTry_57 : decode prog_2_method_3_code 57 = .ok (.aload_n 0, 1) := dd_Odds_addTry_34.2.2.2.2.2.2.2.2.2.2.2.2.2.2.2.2.1
theorem d_Odds_addTry_58 : decode prog_2_method_3_code 58 = .ok (.dup, 1) := dd_Odds_addTry_34.2.2.2.2.2.2.2.2.2.2.2.2.2.2.2.2.2.1
theorem d_Odds_addTry_59 : decode prog_2_method_3_code 59 = .ok (.getfield 21, 3) := dd_Odds_addTry_34.2.2.2.2.2.2.2.2.2.2.2.2.2.2.2.2.2.2.1
theorem d_Odds_addTry_62 : decode prog_2_method_3_code 62 = .ok (.ldc2_w 53, 3) := dd_Odds_addTry_34.2.2.2.2.2.2.2.2.2.2.2.2.2.2.2.2.2.2.2.1
theorem d_Odds_addTry_65 : decode prog_2_method_3_code 65 = .ok (.lmul, 1) := dd_Odds_addTry_34.2.2.2.2.2.2.2.2.2.2.2.2.2.2.2.2.2.2.2.2.1
theorem d_Odds_addTry_66 : decode prog_2_method_3_code 66 = .ok (.putfield 21, 3) := dd_Odds_addTry_34.2.2.2.2.2.2.2.2.2.2.2.2.2.2.2.2.2.2.2.2.2.1
theorem d_Odds_addTry_69 : decode prog_2_method_3_code 69 = .ok (.return_, 1) := dd_Odds_addTry_34.2.2.2.2.2.2.2.2.2.2.2.2.2.2.2.2.2.2.2.2.2.2
def f_Odds_addTry_3b (rec3 : Nat → Int32 → Int32 → mH → Option mH) (b0 : Nat) (b1 : Int32) (b2 : Int32) (h : mH) : Option mH :=
  if b2 ≤ 0 then
    bd1 (gR h b0 1 2) fun x1 =>
    bd1 (aL h x1 (0 : Int32)) fun x3 =>
    bd1 (sL h x1 (0 : Int32) (x3 * (((10 : Int32) - b1).toInt64))) fun h5 =>
    bd1 (gL h5 b0 1 1) fun x7 =>
    bd1 (pV h5 b0 1 1 (.long (x7 * (10 : Int64)))) fun h9 =>
    some h9
  else
    bd1 (gR h b0 1 2) fun x11 =>
    bd1 (gR h b0 1 2) fun x13 =>
    bd1 (aL h x13 b2) fun x15 =>
    bd1 (gR h b0 1 2) fun x17 =>
    bd1 (aL h x17 (b2 - (1 : Int32))) fun x19 =>
    bd1 (sL h x11 b2 ((x15 * (((10 : Int32) - b1).toInt64)) + (x19 * b1.toInt64))) fun h21 =>
    rec3 b0 b1 (b2 + ((-1) : Int32)) h21
set_option maxRecDepth 20000 in
theorem t_Odds_addTry_3b {sc : Nat × (Nat → Int32)} (rec3 : Nat → Int32 → Int32 → mH → Option mH) (hrec3 : ∀ (b0 : Nat) (b1 : Int32) (b2 : Int32) (h : mH) (h' : mH), rec3 b0 b1 b2 h = some h' → G sc y_Odds_addTry prog_2_method_3_code 3 none 0 0 3 [(0, .ref b0), (1, .int b1), (2, .int b2)] [] h none h') (b0 : Nat) (b1 : Int32) (b2 : Int32) (h : mH) (h' : mH) (hf : f_Odds_addTry_3b rec3 b0 b1 b2 h = some h') : G sc y_Odds_addTry prog_2_method_3_code 3 none 0 0 3 [(0, .ref b0), (1, .int b1), (2, .int b2)] [] h none h' := by
  unfold f_Odds_addTry_3b at hf
  refine g_iload_n (pc := 3) 2 d_Odds_addTry_3 rfl rfl ?_
  refine g_ifle (pc := 4) 43 d_Odds_addTry_4 (by decide) (fun c23 => ?_) (fun c23 => ?_)
  · replace hf := (if_pos c23).symm.trans hf
    refine g_aload_n (pc := 43) 0 d_Odds_addTry_43 rfl rfl ?_
    obtain ⟨x1, e2, hf⟩ := bd1_e hf
    refine g_get (pc := 44) (ci := 1) (kk := 2) d_Odds_addTry_44 rfl in_Odds (by decide) wd_272 (gR_spec e2) ?_
    refine g_iconst (pc := 47) (0 : Int32) d_Odds_addTry_47 (by decide) ?_
    refine g_dup2 (pc := 48) d_Odds_addTry_48 rfl rfl ?_
    obtain ⟨x3, e4, hf⟩ := bd1_e hf
    refine g_lald (pc := 49) d_Odds_addTry_49 e4 ?_
    refine g_bipush (pc := 50) (10 : Int32) d_Odds_addTry_50 (by decide) ?_
    refine g_iload_n (pc := 52) 1 d_Odds_addTry_52 rfl rfl ?_
    refine g_isub (pc := 53) d_Odds_addTry_53 ?_
    refine g_i2l (pc := 54) d_Odds_addTry_54 ?_
    refine g_lmul (pc := 55) d_Odds_addTry_55 ?_
    obtain ⟨h5, e6, hf⟩ := bd1_e hf
    refine g_last (pc := 56) d_Odds_addTry_56 e6 ?_
    refine g_aload_n (pc := 57) 0 d_Odds_addTry_57 rfl rfl ?_
    refine g_dup (pc := 58) d_Odds_addTry_58 rfl ?_
    obtain ⟨x7, e8, hf⟩ := bd1_e hf
    refine g_get (pc := 59) (ci := 1) (kk := 1) d_Odds_addTry_59 rfl in_Odds (by decide) wd_270 (gL_spec e8) ?_
    refine g_ldc2 (pc := 62) (10 : Int64) d_Odds_addTry_62 wd_762 ?_
    refine g_lmul (pc := 65) d_Odds_addTry_65 ?_
    obtain ⟨h9, e10, hf⟩ := bd1_e hf
    refine g_put (pc := 66) (ci := 1) (kk := 1) ty_Odds tyok_Odds nm_Odds d_Odds_addTry_66 rfl in_Odds (by decide) wd_270 rfl (fun _ => rfl) (fun _ => rfl) (fun _ z => by cases z) e10 ?_
    obtain rfl := ret1 hf
    exact g_vret (pc := 69) rfl d_Odds_addTry_69
  · replace hf := (if_neg c23).symm.trans hf
    refine g_aload_n (pc := 7) 0 d_Odds_addTry_7 rfl rfl ?_
    obtain ⟨x11, e12, hf⟩ := bd1_e hf
    refine g_get (pc := 8) (ci := 1) (kk := 2) d_Odds_addTry_8 rfl in_Odds (by decide) wd_272 (gR_spec e12) ?_
    refine g_iload_n (pc := 11) 2 d_Odds_addTry_11 rfl rfl ?_
    refine g_aload_n (pc := 12) 0 d_Odds_addTry_12 rfl rfl ?_
    obtain ⟨x13, e14, hf⟩ := bd1_e hf
    refine g_get (pc := 13) (ci := 1) (kk := 2) d_Odds_addTry_13 rfl in_Odds (by decide) wd_272 (gR_spec e14) ?_
    refine g_iload_n (pc := 16) 2 d_Odds_addTry_16 rfl rfl ?_
    obtain ⟨x15, e16, hf⟩ := bd1_e hf
    refine g_lald (pc := 17) d_Odds_addTry_17 e16 ?_
    refine g_bipush (pc := 18) (10 : Int32) d_Odds_addTry_18 (by decide) ?_
    refine g_iload_n (pc := 20) 1 d_Odds_addTry_20 rfl rfl ?_
    refine g_isub (pc := 21) d_Odds_addTry_21 ?_
    refine g_i2l (pc := 22) d_Odds_addTry_22 ?_
    refine g_lmul (pc := 23) d_Odds_addTry_23 ?_
    refine g_aload_n (pc := 24) 0 d_Odds_addTry_24 rfl rfl ?_
    obtain ⟨x17, e18, hf⟩ := bd1_e hf
    refine g_get (pc := 25) (ci := 1) (kk := 2) d_Odds_addTry_25 rfl in_Odds (by decide) wd_272 (gR_spec e18) ?_
    refine g_iload_n (pc := 28) 2 d_Odds_addTry_28 rfl rfl ?_
    refine g_iconst (pc := 29) (1 : Int32) d_Odds_addTry_29 (by decide) ?_
    refine g_isub (pc := 30) d_Odds_addTry_30 ?_
    obtain ⟨x19, e20, hf⟩ := bd1_e hf
    refine g_lald (pc := 31) d_Odds_addTry_31 e20 ?_
    refine g_iload_n (pc := 32) 1 d_Odds_addTry_32 rfl rfl ?_
    refine g_i2l (pc := 33) d_Odds_addTry_33 ?_
    refine g_lmul (pc := 34) d_Odds_addTry_34 ?_
    refine g_ladd (pc := 35) d_Odds_addTry_35 ?_
    obtain ⟨h21, e22, hf⟩ := bd1_e hf
    refine g_last (pc := 36) d_Odds_addTry_36 e22 ?_
    refine g_iinc (pc := 37) 2 (b2 + ((-1) : Int32)) [(2, .int (b2 + ((-1) : Int32))), (0, .ref b0), (1, .int b1)] d_Odds_addTry_37 rfl rfl (Nat.le_of_ble_eq_true rfl) rfl ?_
    refine g_goto (pc := 40) 3 d_Odds_addTry_40 (by decide) ?_
    refine g_lv [1, 2, 0] rfl ?_
    exact hrec3 _ _ _ _ _  hf
def f_Odds_addTry_3  : Nat → Nat → Int32 → Int32 → mH → Option mH
  | 0 => fun _ _ _ _ => none
  | n + 1 => f_Odds_addTry_3b  (f_Odds_addTry_3  n)
theorem t_Odds_addTry_3 {sc : Nat × (Nat → Int32)}  : ∀ (n : Nat) (b0 : Nat) (b1 : Int32) (b2 : Int32) (h : mH) (h' : mH) (hf : f_Odds_addTry_3  n b0 b1 b2 h = some h'), G sc y_Odds_addTry prog_2_method_3_code 3 none 0 0 3 [(0, .ref b0), (1, .int b1), (2, .int b2)] [] h none h'
  | 0, _, _, _, _, _, hf => by cases hf
  | n + 1, _, _, _, _, _, hf => t_Odds_addTry_3b  (f_Odds_addTry_3  n) (t_Odds_addTry_3  n) _ _ _ _ _ hf
def f_Odds_addTry_0  (a0 : Nat) (a1 : Int32) (h : mH) : Option mH :=
  f_Odds_addTry_3  FU a0 a1 (9 : Int32) h
set_option maxRecDepth 20000 in
theorem t_Odds_addTry_0 {sc : Nat × (Nat → Int32)}  (a0 : Nat) (a1 : Int32) (h : mH) (h' : mH) (hf : f_Odds_addTry_0  a0 a1 h = some h') : G sc y_Odds_addTry prog_2_method_3_code 3 none 0 0 0 [(0, .ref a0), (1, .int a1)] [] h none h' := by
  unfold f_Odds_addTry_0 at hf
  refine g_bipush (pc := 0) (9 : Int32) d_Odds_addTry_0 (by decide) ?_
  refine g_istore_n (pc := 2) [(2, .int (9 : Int32)), (0, .ref a0), (1, .int a1)] d_Odds_addTry_2 rfl (Nat.le_of_ble_eq_true rfl) rfl ?_
  refine g_lv [1, 2, 0] rfl ?_
  exact t_Odds_addTry_3  FU _ _ _ _ _  hf
def f_Odds_addTry (a0 : Nat) (a1 : Int32) (h : mH) : Option mH := f_Odds_addTry_0 a0 a1 h
theorem c_Odds_addTry {sc : Nat × (Nat → Int32)} {a0 : Nat} {a1 : Int32} {h : mH} {h' : mH} (hf : f_Odds_addTry a0 a1 h = some h') : MM sc y_Odds_addTry prog_2_method_3_code 3 none 0 0 [.ref a0, .int a1] h none h' :=
  mm_of_G (by decide) (Nat.le_of_ble_eq_true rfl) (t_Odds_addTry_0 _ _ _ _ hf)
/-! Odds reduce ()V -/
set_option maxRecDepth 100000 in
theorem dd_Odds_reduce_0 : (decode prog_2_method_4_code 0 = .ok (.aload_n 0, 1)) ∧ (decode prog_2_method_4_code 1 = .ok (.getfield 21, 3)) ∧ (decode prog_2_method_4_code 4 = .ok (.lstore_n 1, 1)) ∧ (decode prog_2_method_4_code 5 = .ok (.aload_n 0, 1)) ∧ (decode prog_2_method_4_code 6 = .ok (.getfield 43, 3)) ∧ (decode prog_2_method_4_code 9 = .ok (.lstore_n 3, 1)) ∧ (decode prog_2_method_4_code 10 = .ok (.iconst 0, 1)) ∧ (decode prog_2_method_4_code 11 = .ok (.istore 5, 2)) ∧ (decode prog_2_method_4_code 13 = .ok (.iload 5, 2)) ∧ (decode prog_2_method_4_code 15 = .ok (.bipush 100, 2)) ∧ (decode prog_2_method_4_code 17 = .ok (.if_icmp .ge 25, 3)) ∧ (decode prog_2_method_4_code 20 = .ok (.lload_n 3, 1)) ∧ (decode prog_2_method_4_code 21 = .ok (.lconst 0, 1)) ∧ (decode prog_2_method_4_code 22 = .ok (.lcmp, 1)) ∧ (decode prog_2_method_4_code 23 = .ok (.ifCond .eq 19, 3)) ∧ (decode prog_2_method_4_code 26 = .ok (.lload_n 1, 1)) ∧ (decode prog_2_method_4_code 27 = .ok (.lload_n 3, 1)) ∧ (decode prog_2_method_4_code 28 = .ok (.lrem, 1)) ∧ (decode prog_2_method_4_code 29 = .ok (.lstore 6, 2)) ∧ (decode prog_2_method_4_code 31 = .ok (.lload_n 3, 1)) ∧ (decode prog_2_method_4_code 32 = .ok (.lstore_n 1, 1)) ∧ (decode prog_2_method_4_code 33 = .ok (.lload 6, 2)) ∧ (decode prog_2_method_4_code 35 = .ok (.lstore_n 3, 1)) ∧ (decode prog_2_method_4_code 36 = .ok (.iinc 5 1, 3)) := by
  have h : List.drop 0 prog_2_method_4_code.data.toList = 0x2a :: _ := rfl
  refine ⟨zq_k_n 42 h rfl (zq_o_42 _), ?_⟩
  replace h := zq_nx1 (q := 1) h rfl
  refine ⟨zq_k_u2 180 (fun z => .getfield z) 21 h rfl (zq_o_180 _) (by decide +kernel), ?_⟩
  replace h := zq_nx3 (q := 4) h rfl
  refine ⟨zq_k_n 64 h rfl (zq_o_64 _), ?_⟩
  replace h := zq_nx1 (q := 5) h rfl
  refine ⟨zq_k_n 42 h rfl (zq_o_42 _), ?_⟩
  replace h := zq_nx1 (q := 6) h rfl
  refine ⟨zq_k_u2 180 (fun z => .getfield z) 43 h rfl (zq_o_180 _) (by decide +kernel), ?_⟩
  replace h := zq_nx3 (q := 9) h rfl
  refine ⟨zq_k_n 66 h rfl (zq_o_66 _), ?_⟩
  replace h := zq_nx1 (q := 10) h rfl
  refine ⟨zq_k_n 3 h rfl (zq_o_3 _), ?_⟩
  replace h := zq_nx1 (q := 11) h rfl
  refine ⟨zq_k_u1 54 (fun z => .istore z) 5 h rfl (zq_o_54 _) (by decide +kernel), ?_⟩
  replace h := zq_nx2 (q := 13) h rfl
  refine ⟨zq_k_u1 21 (fun z => .iload z) 5 h rfl (zq_o_21 _) (by decide +kernel), ?_⟩
  replace h := zq_nx2 (q := 15) h rfl
  refine ⟨zq_k_s1 16 (fun z => .bipush z) 100 h rfl (zq_o_16 _) (by decide +kernel), ?_⟩
  replace h := zq_nx2 (q := 17) h rfl
  refine ⟨zq_k_s2 162 (fun z => .if_icmp .ge z) 25 h rfl (zq_o_162 _) (by decide +kernel), ?_⟩
  replace h := zq_nx3 (q := 20) h rfl
  refine ⟨zq_k_n 33 h rfl (zq_o_33 _), ?_⟩
  replace h := zq_nx1 (q := 21) h rfl
  refine ⟨zq_k_n 9 h rfl (zq_o_9 _), ?_⟩
  replace h := zq_nx1 (q := 22) h rfl
  refine ⟨zq_k_n 148 h rfl (zq_o_148 _), ?_⟩
  replace h := zq_nx1 (q := 23) h rfl
  refine ⟨zq_k_s2 153 (fun z => .ifCond .eq z) 19 h rfl (zq_o_153 _) (by decide +kernel), ?_⟩
  replace h := zq_nx3 (q := 26) h rfl
  refine ⟨zq_k_n 31 h rfl (zq_o_31 _), ?_⟩
  replace h := zq_nx1 (q := 27) h rfl
  refine ⟨zq_k_n 33 h rfl (zq_o_33 _), ?_⟩
  replace h := zq_nx1 (q := 28) h rfl
  refine ⟨zq_k_n 113 h rfl (zq_o_113 _), ?_⟩
  replace h := zq_nx1 (q := 29) h rfl
  refine ⟨zq_k_u1 55 (fun z => .lstore z) 6 h rfl (zq_o_55 _) (by decide +kernel), ?_⟩
  replace h := zq_nx2 (q := 31) h rfl
  refine ⟨zq_k_n 33 h rfl (zq_o_33 _), ?_⟩
  replace h := zq_nx1 (q := 32) h rfl
  refine ⟨zq_k_n 64 h rfl (zq_o_64 _), ?_⟩
  replace h := zq_nx1 (q := 33) h rfl
  refine ⟨zq_k_u1 22 (fun z => .lload z) 6 h rfl (zq_o_22 _) (by decide +kernel), ?_⟩
  replace h := zq_nx2 (q := 35) h rfl
  refine ⟨zq_k_n 66 h rfl (zq_o_66 _), ?_⟩
  replace h := zq_nx1 (q := 36) h rfl
  exact zq_k_iinc 5 1 h rfl (zq_o_132 _) (by decide +kernel) (by decide +kernel)
theorem d_Odds_reduce_0 : decode prog_2_method_4_code 0 = .ok (.aload_n 0, 1) := dd_Odds_reduce_0.1
theorem d_Odds_reduce_1 : decode prog_2_method_4_code 1 = .ok (.getfield 21, 3) := dd_Odds_reduce_0.2.1
theorem d_Odds_reduce_4 : decode prog_2_method_4_code 4 = .ok (.lstore_n 1, 1) := dd_Odds_reduce_0.2.2.1
theorem d_Odds_reduce_5 : decode prog_2_method_4_code 5 = .ok (.aload_n 0, 1) := dd_Odds_reduce_0.2.2.2.1
theorem d_Odds_reduce_6 : decode prog_2_method_4_code 6 = .ok (.getfield 43, 3) := dd_Odds_reduce_0.2.2.2.2.1
theorem d_Odds_reduce_9 : decode prog_2_method_4_code 9 = .ok (.lstore_n 3, 1) := dd_Odds_reduce_0.2.2.2.2.2.1
theorem d_Odds_reduce_10 : decode prog_2_method_4_code 10 = .ok (.iconst 0, 1) := dd_Odds_reduce_0.2.2.2.2.2.2.1
theorem d_Odds_reduce_11 : decode prog_2_method_4_code 11 = .ok (.istore 5, 2) := dd_Odds_reduce_0.2.2.2.2.2.2.2.1
theorem d_Odds_reduce_13 : decode prog_2_method_4_code 13 = .ok (.iload 5, 2) := dd_Odds_reduce_0.2.2.2.2.2.2.2.2.1
theorem d_Odds_reduce_15 : decode prog_2_method_4_code 15 = .ok (.bipush 100, 2) := dd_Odds_reduce_0.2.2.2.2.2.2.2.2.2.1
theorem d_Odds_reduce_17 : decode prog_2_method_4_code 17 = .ok (.if_icmp .ge 25, 3) := dd_Odds_reduce_0.2.2.2.2.2.2.2.2.2.2.1
theorem d_Odds_reduce_20 : decode prog_2_method_4_code 20 = .ok (.lload_n 3, 1) := dd_Odds_reduce_0.2.2.2.2.2.2.2.2.2.2.2.1
theorem d_Odds_reduce_21 : decode prog_2_method_4_code 21 = .ok (.lconst 0, 1) := dd_Odds_reduce_0.2.2.2.2.2.2.2.2.2.2.2.2.1
theorem d_Odds_reduce_22 : decode prog_2_method_4_code 22 = .ok (.lcmp, 1) := dd_Odds_reduce_0.2.2.2.2.2.2.2.2.2.2.2.2.2.1
theorem d_Odds_reduce_23 : decode prog_2_method_4_code 23 = .ok (.ifCond .eq 19, 3) := dd_Odds_reduce_0.2.2.2.2.2.2.2.2.2.2.2.2.2.2.1
theorem d_Odds_reduce_26 : decode prog_2_method_4_code 26 = .ok (.lload_n 1, 1) := dd_Odds_reduce_0.2.2.2.2.2.2.2.2.2.2.2.2.2.2.2.1
theorem d_Odds_reduce_27 : decode prog_2_method_4_code 27 = .ok (.lload_n 3, 1) := dd_Odds_reduce_0.2.2.2.2.2.2.2.2.2.2.2.2.2.2.2.2.1
theorem d_Odds_reduce_28 : decode prog_2_method_4_code 28 = .ok (.lrem, 1) := dd_Odds_reduce_0.2.2.2.2.2.2.2.2.2.2.2.2.2.2.2.2.2.1
theorem d_Odds_reduce_29 : decode prog_2_method_4_code 29 = .ok (.lstore 6, 2) := dd_Odds_reduce_0.2.2.2.2.2.2.2.2.2.2.2.2.2.2.2.2.2.2.1
theorem d_Odds_reduce_31 : decode prog_2_method_4_code 31 = .ok (.lload_n 3, 1) := dd_Odds_reduce_0.2.2.2.2.2.2.2.2.2.2.2.2.2.2.2.2.2.2.2.1
theorem d_Odds_reduce_32 : decode prog_2_method_4_code 32 = .ok (.lstore_n 1, 1) := dd_Odds_reduce_0.2.2.2.2.2.2.2.2.2.2.2.2.2.2.2.2.2.2.2.2.1
theorem d_Odds_reduce_33 : decode prog_2_method_4_code 33 = .ok (.lload 6, 2) := dd_Odds_reduce_0.2.2.2.2.2.2.2.2.2.2.2.2.2.2.2.2.2.2.2.2.2.1
theorem d_Odds_reduce_35 : decode prog_2_method_4_code 35 = .ok (.lstore_n 3, 1) := dd_Odds_reduce_0.2.2.2.2.2.2.2.2.2.2.2.2.2.2.2.2.2.2.2.2.2.2.1
theorem d_Odds_reduce_36 : decode prog_2_method_4_code 36 = .ok (.iinc 5 1, 3) := dd_Odds_reduce_0.2.2.2.2.2.2.2.2.2.2.2.2.2.2.2.2.2.2.2.2.2.2.2
set_option maxRecDepth 100000 in
theorem dd_Odds_reduce_39 : (decode prog_2_method_4_code 39 = .ok (.goto (-26), 3)) ∧ (decode prog_2_method_4_code 42 = .ok (.lload_n 1, 1)) ∧ (decode prog_2_method_4_code 43 = .ok (.lconst 0, 1)) ∧ (decode prog_2_method_4_code 44 = .ok (.lcmp, 1)) ∧ (decode prog_2_method_4_code 45 = .ok (.ifCond .le 23, 3)) ∧ (decode prog_2_method_4_code 48 = .ok (.aload_n 0, 1)) ∧ (decode prog_2_method_4_code 49 = .ok (.dup, 1)) ∧ (decode prog_2_method_4_code 50 = .ok (.getfield 43, 3)) ∧ (decode prog_2_method_4_code 53 = .ok (.lload_n 1, 1)) ∧ (decode prog_2_method_4_code 54 = .ok (.ldiv, 1)) ∧ (decode prog_2_method_4_code 55 = .ok (.putfield 43, 3)) ∧ (decode prog_2_method_4_code 58 = .ok (.aload_n 0, 1)) ∧ (decode prog_2_method_4_code 59 = .ok (.dup, 1)) ∧ (decode prog_2_method_4_code 60 = .ok (.getfield 21, 3)) ∧ (decode prog_2_method_4_code 63 = .ok (.lload_n 1, 1)) ∧ (decode prog_2_method_4_code 64 = .ok (.ldiv, 1)) ∧ (decode prog_2_method_4_code 65 = .ok (.putfield 21, 3)) ∧ (decode prog_2_method_4_code 68 = .ok (.return_, 1)) := by
  have h : List.drop 39 prog_2_method_4_code.data.toList = 0xa7 :: _ := rfl
  refine ⟨zq_k_s2 167 (fun z => .goto z) (-26) h rfl (zq_o_167 _) (by decide +kernel), ?_⟩
  replace h := zq_nx3 (q := 42) h rfl
  refine ⟨zq_k_n 31 h rfl (zq_o_31 _), ?_⟩
  replace h := zq_nx1 (q := 43) h rfl
  refine ⟨zq_k_n 9 h rfl (zq_o_9 _), ?_⟩
  replace h := zq_nx1 (q := 44) h rfl
  refine ⟨zq_k_n 148 h rfl (zq_o_148 _), ?_⟩
  replace h := zq_nx1 (q := 45) h rfl
  refine ⟨zq_k_s2 158 (fun z => .ifCond .le z) 23 h rfl (zq_o_158 _) (by decide +kernel), ?_⟩
  replace h := zq_nx3 (q := 48) h rfl
  refine ⟨zq_k_n 42 h rfl (zq_o_42 _), ?_⟩
  replace h := zq_nx1 (q := 49) h rfl
  refine ⟨zq_k_n 89 h rfl (zq_o_89 _), ?_⟩
  replace h := zq_nx1 (q := 50) h rfl
  refine ⟨zq_k_u2 180 (fun z => .getfield z) 43 h rfl (zq_o_180 _) (by decide +kernel), ?_⟩
  replace h := zq_nx3 (q := 53) h rfl
  refine ⟨zq_k_n 31 h rfl (zq_o_31 _), ?_⟩
  replace h := zq_nx1 (q := 54) h rfl
  refine ⟨zq_k_n 109 h rfl (zq_o_109 _), ?_⟩
  replace h := zq_nx1 (q := 55) h rfl
  refine ⟨zq_k_u2 181 (fun z => .putfield z) 43 h rfl (zq_o_181 _) (by decide +kernel), ?_⟩
  replace h := zq_nx3 (q := 58) h rfl
  refine ⟨zq_k_n 42 h rfl (zq_o_42 _), ?_⟩
  replace h := zq_nx1 (q := 59) h rfl
  refine ⟨zq_k_n 89 h rfl (zq_o_89 _), ?_⟩
  replace h := zq_nx1 (q := 60) h rfl
  refine ⟨zq_k_u2 180 (fun z => .getfield z) 21 h rfl (zq_o_180 _) (by decide +kernel), ?_⟩
  replace h := zq_nx3 (q := 63) h rfl
  refine ⟨zq_k_n 31 h rfl (zq_o_31 _), ?_⟩
  replace h := zq_nx1 (q := 64) h rfl
  refine ⟨zq_k_n 109 h rfl (zq_o_109 _), ?_⟩
  replace h := zq_nx1 (q := 65) h rfl
  refine ⟨zq_k_u2 181 (fun z => .putfield z) 21 h rfl (zq_o_181 _) (by decide +kernel), ?_⟩
  replace h := zq_nx3 (q := 68) h rfl
  exact zq_k_n 177 h rfl (zq_o_177 _)
theorem d_Odds_reduce_39 : decode prog_2_method_4_code 39 = .ok (.goto (-26), 3) := dd_Odds_reduce_39.1
theorem d_Odds_reduce_42 : decode prog_2_method_4_code 42 = .ok (.lload_n 1, 1) := dd_Odds_reduce_39.2.1
theorem d_Odds_reduce_43 : decode prog_2_method_4_code 43 = .ok (.lconst 0, 1) := dd_Odds_reduce_39.2.2.1
theorem d_Odds_reduce_44 : decode prog_2_method_4_code 44 = .ok (.lcmp, 1) := dd_Odds_reduce_39.2.2.2.1
theorem d_Odds_reduce_45 : decode prog_2_method_4_code 45 = .ok (.ifCond .le 23, 3) := dd_Odds_reduce_39.2.2.2.2.1
theorem d_Odds_reduce_48 : decode prog_2_method_4_code 48 = .ok (.aload_n 0, 1) := dd_Odds_reduce_39.2.2.2.2.2.1
theorem d_Odds_reduce_49 : decode prog_2_method_4_code 49 = .ok (.dup, 1) := dd_Odds_reduce_39.2.2.2.2.2.2.1
theorem d_Odds_reduce_50 : decode prog_2_method_4_code 50 = .ok (.getfield 43, 3) := dd_Odds_reduce_39.2.2.2.2.2.2.2.1
theorem d_Odds_reduce_53 : decode prog_2_method_4_code 53 = .ok (.lload_n 1, 1) := dd_Odds_reduce_39.2.2.2.2.2.2.2.2.1
theorem d_Odds_reduce_54 : decode prog_2_method_4_code 54 = .ok (.ldiv, 1) := dd_Odds_reduce_39.2.2.2.2.2.2.2.2.2.1
theorem d_Odds_reduce_55 : decode prog_2_method_4_code 55 = .ok (.putfield 43, 3) := dd_Odds_reduce_39.2.2.2.2.2.2.2.2.2.2.1
theorem d_Odds_reduce_58 : decode prog_2_method_4_code 58 = .ok (.aload_n 0, 1) := dd_Odds_reduce_39.2.2.2.2.2.2.2.2.2.2.2.1
theorem d_Odds_reduce_59 : decode prog_2_method_4_code 59 = .ok (.dup, 1) := dd_Odds_reduce_39.2.2.2.2.2.2.2.2.2.2.2.2.1
theorem d_Odds_reduce_60 : decode prog_2_method_4_code 60 = .ok (.getfield 21, 3) := dd_Odds_reduce_39.2.2.2.2.2.2.2.2.2.2.2.2.2.1
theorem d_Odds_reduce_63 : decode prog_2_method_4_code 63 = .ok (.lload_n 1, 1) := dd_Odds_reduce_39.2.2.2.2.2.2.2.2.2.2.2.2.2.2.1
theorem d_Odds_reduce_64 : decode prog_2_method_4_code 64 = .ok (.ldiv, 1) := dd_Odds_reduce_39.2.2.2.2.2.2.2.2.2.2.2.2.2.2.2.1
theorem d_Odds_reduce_65 : decode prog_2_method_4_code 65 = .ok (.putfield 21, 3) := dd_Odds_reduce_39.2.2.2.2.2.2.2.2.2.2.2.2.2.2.2.2.1
theorem d_Odds_reduce_68 : decode prog_2_method_4_code 68 = .ok (.return_, 1) := dd_Odds_reduce_39.2.2.2.2.2.2.2.2.2.2.2.2.2.2.2.2.2
def f_Odds_reduce_42  (b0 : Nat) (b1 : Int64) (h : mH) : Option mH :=
  if (lg_cmp b1 (0 : Int64)) ≤ 0 then
    some h
  else
    bd1 (gL h b0 1 0) fun x8 =>
    if b1 = 0 then none else
    bd1 (pV h b0 1 0 (.long (x8 / b1))) fun h11 =>
    bd1 (gL h11 b0 1 1) fun x13 =>
    if b1 = 0 then none else
    bd1 (pV h11 b0 1 1 (.long (x13 / b1))) fun h16 =>
    some h16
set_option maxRecDepth 20000 in
theorem t_Odds_reduce_42 {sc : Nat × (Nat → Int32)}  (b0 : Nat) (b1 : Int64) (h : mH) (h' : mH) (hf : f_Odds_reduce_42  b0 b1 h = some h') : G sc y_Odds_reduce prog_2_method_4_code 8 none 0 0 42 [(0, .ref b0), (1, .long b1)] [] h none h' := by
  unfold f_Odds_reduce_42 at hf
  refine g_lload_n (pc := 42) 1 d_Odds_reduce_42 rfl rfl ?_
  refine g_lconst (pc := 43) (0 : Int64) d_Odds_reduce_43 (by decide) ?_
  refine g_lcmp (pc := 44) d_Odds_reduce_44 ?_
  refine g_ifle (pc := 45) 68 d_Odds_reduce_45 (by decide) (fun c18 => ?_) (fun c18 => ?_)
  · replace hf := (if_pos c18).symm.trans hf
    obtain rfl := ret1 hf
    exact g_vret (pc := 68) rfl d_Odds_reduce_68
  · replace hf := (if_neg c18).symm.trans hf
    refine g_aload_n (pc := 48) 0 d_Odds_reduce_48 rfl rfl ?_
    refine g_dup (pc := 49) d_Odds_reduce_49 rfl ?_
    obtain ⟨x8, e9, hf⟩ := bd1_e hf
    refine g_get (pc := 50) (ci := 1) (kk := 0) d_Odds_reduce_50 rfl in_Odds (by decide) wd_268 (gL_spec e9) ?_
    refine g_lload_n (pc := 53) 1 d_Odds_reduce_53 rfl rfl ?_
    have c10 : ¬ b1 = 0 := fun z => absurd ((if_pos z).symm.trans hf) (by simp)
    replace hf := (if_neg c10).symm.trans hf
    refine g_ldiv (pc := 54) d_Odds_reduce_54 c10 ?_
    obtain ⟨h11, e12, hf⟩ := bd1_e hf
    refine g_put (pc := 55) (ci := 1) (kk := 0) ty_Odds tyok_Odds nm_Odds d_Odds_reduce_55 rfl in_Odds (by decide) wd_268 rfl (fun _ => rfl) (fun _ => rfl) (fun _ z => by cases z) e12 ?_
    refine g_aload_n (pc := 58) 0 d_Odds_reduce_58 rfl rfl ?_
    refine g_dup (pc := 59) d_Odds_reduce_59 rfl ?_
    obtain ⟨x13, e14, hf⟩ := bd1_e hf
    refine g_get (pc := 60) (ci := 1) (kk := 1) d_Odds_reduce_60 rfl in_Odds (by decide) wd_270 (gL_spec e14) ?_
    refine g_lload_n (pc := 63) 1 d_Odds_reduce_63 rfl rfl ?_
    have c15 : ¬ b1 = 0 := fun z => absurd ((if_pos z).symm.trans hf) (by simp)
    replace hf := (if_neg c15).symm.trans hf
    refine g_ldiv (pc := 64) d_Odds_reduce_64 c15 ?_
    obtain ⟨h16, e17, hf⟩ := bd1_e hf
    refine g_put (pc := 65) (ci := 1) (kk := 1) ty_Odds tyok_Odds nm_Odds d_Odds_reduce_65 rfl in_Odds (by decide) wd_270 rfl (fun _ => rfl) (fun _ => rfl) (fun _ z => by cases z) e17 ?_
    obtain rfl := ret1 hf
    exact g_vret (pc := 68) rfl d_Odds_reduce_68
def f_Odds_reduce_13b (rec13 : Nat → Int64 → Int64 → Int32 → mH → Option mH) (b0 : Nat) (b1 : Int64) (b3 : Int64) (b5 : Int32) (h : mH) : Option mH :=
  if (100 : Int32) ≤ b5 then
    f_Odds_reduce_42  b0 b1 h
  else
    if (lg_cmp b3 (0 : Int64)) = 0 then
      f_Odds_reduce_42  b0 b1 h
    else
      if b3 = 0 then none else
      rec13 b0 b3 (b1 - b1 / b3 * b3) (b5 + (1 : Int32)) h
set_option maxRecDepth 20000 in
theorem t_Odds_reduce_13b {sc : Nat × (Nat → Int32)} (rec13 : Nat → Int64 → Int64 → Int32 → mH → Option mH) (hrec13 : ∀ (b0 : Nat) (b1 : Int64) (b3 : Int64) (b5 : Int32) (h : mH) (h' : mH), rec13 b0 b1 b3 b5 h = some h' → G sc y_Odds_reduce prog_2_method_4_code 8 none 0 0 13 [(0, .ref b0), (1, .long b1), (3, .long b3), (5, .int b5)] [] h none h') (b0 : Nat) (b1 : Int64) (b3 : Int64) (b5 : Int32) (h : mH) (h' : mH) (hf : f_Odds_reduce_13b rec13 b0 b1 b3 b5 h = some h') : G sc y_Odds_reduce prog_2_method_4_code 8 none 0 0 13 [(0, .ref b0), (1, .long b1), (3, .long b3), (5, .int b5)] [] h none h' := by
  unfold f_Odds_reduce_13b at hf
  refine g_iload (pc := 13) 3 d_Odds_reduce_13 rfl ?_
  refine g_bipush (pc := 15) (100 : Int32) d_Odds_reduce_15 (by decide) ?_
  refine g_icmpge (pc := 17) 42 d_Odds_reduce_17 (by decide) (fun c7 => ?_) (fun c7 => ?_)
  · replace hf := (if_pos c7).symm.trans hf
    refine g_lv [0, 1] rfl ?_
    exact t_Odds_reduce_42  _ _ _ _  hf
  · replace hf := (if_neg c7).symm.trans hf
    refine g_lload_n (pc := 20) 2 d_Odds_reduce_20 rfl rfl ?_
    refine g_lconst (pc := 21) (0 : Int64) d_Odds_reduce_21 (by decide) ?_
    refine g_lcmp (pc := 22) d_Odds_reduce_22 ?_
    refine g_ifeq (pc := 23) 42 d_Odds_reduce_23 (by decide) (fun c6 => ?_) (fun c6 => ?_)
    · replace hf := (if_pos c6).symm.trans hf
      refine g_lv [0, 1] rfl ?_
      exact t_Odds_reduce_42  _ _ _ _  hf
    · replace hf := (if_neg c6).symm.trans hf
      refine g_lload_n (pc := 26) 1 d_Odds_reduce_26 rfl rfl ?_
      refine g_lload_n (pc := 27) 2 d_Odds_reduce_27 rfl rfl ?_
      have c5 : ¬ b3 = 0 := fun z => absurd ((if_pos z).symm.trans hf) (by simp)
      replace hf := (if_neg c5).symm.trans hf
      refine g_lrem (pc := 28) d_Odds_reduce_28 c5 ?_
      refine g_lstore (pc := 29) [(6, .long (b1 - b1 / b3 * b3)), (0, .ref b0), (1, .long b1), (3, .long b3), (5, .int b5)] d_Odds_reduce_29 (Nat.le_of_ble_eq_true rfl) rfl ?_
      refine g_lload_n (pc := 31) 3 d_Odds_reduce_31 rfl rfl ?_
      refine g_lstore_n (pc := 32) [(1, .long b3), (6, .long (b1 - b1 / b3 * b3)), (0, .ref b0), (3, .long b3), (5, .int b5)] d_Odds_reduce_32 rfl (Nat.le_of_ble_eq_true rfl) rfl ?_
      refine g_lload (pc := 33) 1 d_Odds_reduce_33 rfl ?_
      refine g_lstore_n (pc := 35) [(3, .long (b1 - b1 / b3 * b3)), (1, .long b3), (6, .long (b1 - b1 / b3 * b3)), (0, .ref b0), (5, .int b5)] d_Odds_reduce_35 rfl (Nat.le_of_ble_eq_true rfl) rfl ?_
      refine g_iinc (pc := 36) 4 (b5 + (1 : Int32)) [(5, .int (b5 + (1 : Int32))), (3, .long (b1 - b1 / b3 * b3)), (1, .long b3), (6, .long (b1 - b1 / b3 * b3)), (0, .ref b0)] d_Odds_reduce_36 rfl rfl (Nat.le_of_ble_eq_true rfl) rfl ?_
      refine g_goto (pc := 39) 13 d_Odds_reduce_39 (by decide) ?_
      refine g_lv [4, 2, 1, 0] rfl ?_
      exact hrec13 _ _ _ _ _ _  hf
def f_Odds_reduce_13  : Nat → Nat → Int64 → Int64 → Int32 → mH → Option mH
  | 0 => fun _ _ _ _ _ => none
  | n + 1 => f_Odds_reduce_13b  (f_Odds_reduce_13  n)
theorem t_Odds_reduce_13 {sc : Nat × (Nat → Int32)}  : ∀ (n : Nat) (b0 : Nat) (b1 : Int64) (b3 : Int64) (b5 : Int32) (h : mH) (h' : mH) (hf : f_Odds_reduce_13  n b0 b1 b3 b5 h = some h'), G sc y_Odds_reduce prog_2_method_4_code 8 none 0 0 13 [(0, .ref b0), (1, .long b1), (3, .long b3), (5, .int b5)] [] h none h'
  | 0, _, _, _, _, _, _, hf => by cases hf
  | n + 1, _, _, _, _, _, _, hf => t_Odds_reduce_13b  (f_Odds_reduce_13  n) (t_Odds_reduce_13  n) _ _ _ _ _ _ hf
def f_Odds_reduce_0  (a0 : Nat) (h : mH) : Option mH :=
  bd1 (gL h a0 1 1) fun x1 =>
  bd1 (gL h a0 1 0) fun x3 =>
  f_Odds_reduce_13  FU a0 x1 x3 (0 : Int32) h
set_option maxRecDepth 20000 in
theorem t_Odds_reduce_0 {sc : Nat × (Nat → Int32)}  (a0 : Nat) (h : mH) (h' : mH) (hf : f_Odds_reduce_0  a0 h = some h') : G sc y_Odds_reduce prog_2_method_4_code 8 none 0 0 0 [(0, .ref a0)] [] h none h' := by
  unfold f_Odds_reduce_0 at hf
  refine g_aload_n (pc := 0) 0 d_Odds_reduce_0 rfl rfl ?_
  obtain ⟨x1, e2, hf⟩ := bd1_e hf
  refine g_get (pc := 1) (ci := 1) (kk := 1) d_Odds_reduce_1 rfl in_Odds (by decide) wd_270 (gL_spec e2) ?_
  refine g_lstore_n (pc := 4) [(1, .long x1), (0, .ref a0)] d_Odds_reduce_4 rfl (Nat.le_of_ble_eq_true rfl) rfl ?_
  refine g_aload_n (pc := 5) 1 d_Odds_reduce_5 rfl rfl ?_
  obtain ⟨x3, e4, hf⟩ := bd1_e hf
  refine g_get (pc := 6) (ci := 1) (kk := 0) d_Odds_reduce_6 rfl in_Odds (by decide) wd_268 (gL_spec e4) ?_
  refine g_lstore_n (pc := 9) [(3, .long x3), (1, .long x1), (0, .ref a0)] d_Odds_reduce_9 rfl (Nat.le_of_ble_eq_true rfl) rfl ?_
  refine g_iconst (pc := 10) (0 : Int32) d_Odds_reduce_10 (by decide) ?_
  refine g_istore (pc := 11) [(5, .int (0 : Int32)), (3, .long x3), (1, .long x1), (0, .ref a0)] d_Odds_reduce_11 (Nat.le_of_ble_eq_true rfl) rfl ?_
  refine g_lv [3, 2, 1, 0] rfl ?_
  exact t_Odds_reduce_13  FU _ _ _ _ _ _  hf
def f_Odds_reduce (a0 : Nat) (h : mH) : Option mH := f_Odds_reduce_0 a0 h
theorem c_Odds_reduce {sc : Nat × (Nat → Int32)} {a0 : Nat} {h : mH} {h' : mH} (hf : f_Odds_reduce a0 h = some h') : MM sc y_Odds_reduce prog_2_method_4_code 8 none 0 0 [.ref a0] h none h' :=
  mm_of_G (by decide) (Nat.le_of_ble_eq_true rfl) (t_Odds_reduce_0 _ _ _ hf)
/-! Odds weigh (LQuotaLaws$Realm;I)V -/
set_option maxRecDepth 100000 in
theorem dd_Odds_weigh_0 : (decode prog_2_method_2_code 0 = .ok (.aload_n 0, 1)) ∧ (decode prog_2_method_2_code 1 = .ok (.getfield 11, 3)) ∧ (decode prog_2_method_2_code 4 = .ok (.lconst 0, 1)) ∧ (decode prog_2_method_2_code 5 = .ok (.invokestatic 15, 3)) ∧ (decode prog_2_method_2_code 8 = .ok (.aload_n 0, 1)) ∧ (decode prog_2_method_2_code 9 = .ok (.getfield 11, 3)) ∧ (decode prog_2_method_2_code 12 = .ok (.iconst 0, 1)) ∧ (decode prog_2_method_2_code 13 = .ok (.lconst 1, 1)) ∧ (decode prog_2_method_2_code 14 = .ok (.lastore, 1)) ∧ (decode prog_2_method_2_code 15 = .ok (.aload_n 0, 1)) ∧ (decode prog_2_method_2_code 16 = .ok (.lconst 1, 1)) ∧ (decode prog_2_method_2_code 17 = .ok (.putfield 21, 3)) ∧ (decode prog_2_method_2_code 20 = .ok (.iconst 0, 1)) ∧ (decode prog_2_method_2_code 21 = .ok (.istore_n 3, 1)) ∧ (decode prog_2_method_2_code 22 = .ok (.iload_n 3, 1)) ∧ (decode prog_2_method_2_code 23 = .ok (.aload_n 1, 1)) ∧ (decode prog_2_method_2_code 24 = .ok (.getfield 25, 3)) ∧ (decode prog_2_method_2_code 27 = .ok (.if_icmp .ge 43, 3)) ∧ (decode prog_2_method_2_code 30 = .ok (.aload_n 1, 1)) ∧ (decode prog_2_method_2_code 31 = .ok (.iload_n 3, 1)) ∧ (decode prog_2_method_2_code 32 = .ok (.iload_n 2, 1)) ∧ (decode prog_2_method_2_code 33 = .ok (.invokevirtual 31, 3)) ∧ (decode prog_2_method_2_code 36 = .ok (.istore 4, 2)) ∧ (decode prog_2_method_2_code 38 = .ok (.iconst 0, 1)) := by
  have h : List.drop 0 prog_2_method_2_code.data.toList = 0x2a :: _ := rfl
  refine ⟨zq_k_n 42 h rfl (zq_o_42 _), ?_⟩
  replace h := zq_nx1 (q := 1) h rfl
  refine ⟨zq_k_u2 180 (fun z => .getfield z) 11 h rfl (zq_o_180 _) (by decide +kernel), ?_⟩
  replace h := zq_nx3 (q := 4) h rfl
  refine ⟨zq_k_n 9 h rfl (zq_o_9 _), ?_⟩
  replace h := zq_nx1 (q := 5) h rfl
  refine ⟨zq_k_u2 184 (fun z => .invokestatic z) 15 h rfl (zq_o_184 _) (by decide +kernel), ?_⟩
  replace h := zq_nx3 (q := 8) h rfl
  refine ⟨zq_k_n 42 h rfl (zq_o_42 _), ?_⟩
  replace h := zq_nx1 (q := 9) h rfl
  refine ⟨zq_k_u2 180 (fun z => .getfield z) 11 h rfl (zq_o_180 _) (by decide +kernel), ?_⟩
  replace h := zq_nx3 (q := 12) h rfl
  refine ⟨zq_k_n 3 h rfl (zq_o_3 _), ?_⟩
  replace h := zq_nx1 (q := 13) h rfl
  refine ⟨zq_k_n 10 h rfl (zq_o_10 _), ?_⟩
  replace h := zq_nx1 (q := 14) h rfl
  refine ⟨zq_k_n 80 h rfl (zq_o_80 _), ?_⟩
  replace h := zq_nx1 (q := 15) h rfl
  refine ⟨zq_k_n 42 h rfl (zq_o_42 _), ?_⟩
  replace h := zq_nx1 (q := 16) h rfl
  refine ⟨zq_k_n 10 h rfl (zq_o_10 _), ?_⟩
  replace h := zq_nx1 (q := 17) h rfl
  refine ⟨zq_k_u2 181 (fun z => .putfield z) 21 h rfl (zq_o_181 _) (by decide +kernel), ?_⟩
  replace h := zq_nx3 (q := 20) h rfl
  refine ⟨zq_k_n 3 h rfl (zq_o_3 _), ?_⟩
  replace h := zq_nx1 (q := 21) h rfl
  refine ⟨zq_k_n 62 h rfl (zq_o_62 _), ?_⟩
  replace h := zq_nx1 (q := 22) h rfl
  refine ⟨zq_k_n 29 h rfl (zq_o_29 _), ?_⟩
  replace h := zq_nx1 (q := 23) h rfl
  refine ⟨zq_k_n 43 h rfl (zq_o_43 _), ?_⟩
  replace h := zq_nx1 (q := 24) h rfl
  refine ⟨zq_k_u2 180 (fun z => .getfield z) 25 h rfl (zq_o_180 _) (by decide +kernel), ?_⟩
  replace h := zq_nx3 (q := 27) h rfl
  refine ⟨zq_k_s2 162 (fun z => .if_icmp .ge z) 43 h rfl (zq_o_162 _) (by decide +kernel), ?_⟩
  replace h := zq_nx3 (q := 30) h rfl
  refine ⟨zq_k_n 43 h rfl (zq_o_43 _), ?_⟩
  replace h := zq_nx1 (q := 31) h rfl
  refine ⟨zq_k_n 29 h rfl (zq_o_29 _), ?_⟩
  replace h := zq_nx1 (q := 32) h rfl
  refine ⟨zq_k_n 28 h rfl (zq_o_28 _), ?_⟩
  replace h := zq_nx1 (q := 33) h rfl
  refine ⟨zq_k_u2 182 (fun z => .invokevirtual z) 31 h rfl (zq_o_182 _) (by decide +kernel), ?_⟩
  replace h := zq_nx3 (q := 36) h rfl
  refine ⟨zq_k_u1 54 (fun z => .istore z) 4 h rfl (zq_o_54 _) (by decide +kernel), ?_⟩
  replace h := zq_nx2 (q := 38) h rfl
  exact zq_k_n 3 h rfl (zq_o_3 _)
theorem d_Odds_weigh_0 : decode prog_2_method_2_code 0 = .ok (.aload_n 0, 1) := dd_Odds_weigh_0.1
theorem d_Odds_weigh_1 : decode prog_2_method_2_code 1 = .ok (.getfield 11, 3) := dd_Odds_weigh_0.2.1
theorem d_Odds_weigh_4 : decode prog_2_method_2_code 4 = .ok (.lconst 0, 1) := dd_Odds_weigh_0.2.2.1
theorem d_Odds_weigh_5 : decode prog_2_method_2_code 5 = .ok (.invokestatic 15, 3) := dd_Odds_weigh_0.2.2.2.1
theorem d_Odds_weigh_8 : decode prog_2_method_2_code 8 = .ok (.aload_n 0, 1) := dd_Odds_weigh_0.2.2.2.2.1
theorem d_Odds_weigh_9 : decode prog_2_method_2_code 9 = .ok (.getfield 11, 3) := dd_Odds_weigh_0.2.2.2.2.2.1
theorem d_Odds_weigh_12 : decode prog_2_method_2_code 12 = .ok (.iconst 0, 1) := dd_Odds_weigh_0.2.2.2.2.2.2.1
theorem d_Odds_weigh_13 : decode prog_2_method_2_code 13 = .ok (.lconst 1, 1) := dd_Odds_weigh_0.2.2.2.2.2.2.2.1
theorem d_Odds_weigh_14 : decode prog_2_method_2_code 14 = .ok (.lastore, 1) := dd_Odds_weigh_0.2.2.2.2.2.2.2.2.1
theorem d_Odds_weigh_15 : decode prog_2_method_2_code 15 = .ok (.aload_n 0, 1) := dd_Odds_weigh_0.2.2.2.2.2.2.2.2.2.1
theorem d_Odds_weigh_16 : decode prog_2_method_2_code 16 = .ok (.lconst 1, 1) := dd_Odds_weigh_0.2.2.2.2.2.2.2.2.2.2.1
theorem d_Odds_weigh_17 : decode prog_2_method_2_code 17 = .ok (.putfield 21, 3) := dd_Odds_weigh_0.2.2.2.2.2.2.2.2.2.2.2.1
theorem d_Odds_weigh_20 : decode prog_2_method_2_code 20 = .ok (.iconst 0, 1) := dd_Odds_weigh_0.2.2.2.2.2.2.2.2.2.2.2.2.1
theorem d_Odds_weigh_21 : decode prog_2_method_2_code 21 = .ok (.istore_n 3, 1) := dd_Odds_weigh_0.2.2.2.2.2.2.2.2.2.2.2.2.2.1
theorem d_Odds_weigh_22 : decode prog_2_method_2_code 22 = .ok (.iload_n 3, 1) := dd_Odds_weigh_0.2.2.2.2.2.2.2.2.2.2.2.2.2.2.1
theorem d_Odds_weigh_23 : decode prog_2_method_2_code 23 = .ok (.aload_n 1, 1) := dd_Odds_weigh_0.2.2.2.2.2.2.2.2.2.2.2.2.2.2.2.1
theorem d_Odds_weigh_24 : decode prog_2_method_2_code 24 = .ok (.getfield 25, 3) := dd_Odds_weigh_0.2.2.2.2.2.2.2.2.2.2.2.2.2.2.2.2.1
theorem d_Odds_weigh_27 : decode prog_2_method_2_code 27 = .ok (.if_icmp .ge 43, 3) := dd_Odds_weigh_0.2.2.2.2.2.2.2.2.2.2.2.2.2.2.2.2.2.1
theorem d_Odds_weigh_30 : decode prog_2_method_2_code 30 = .ok (.aload_n 1, 1) := dd_Odds_weigh_0.2.2.2.2.2.2.2.2.2.2.2.2.2.2.2.2.2.2.1
theorem d_Odds_weigh_31 : decode prog_2_method_2_code 31 = .ok (.iload_n 3, 1) := dd_Odds_weigh_0.2.2.2.2.2.2.2.2.2.2.2.2.2.2.2.2.2.2.2.1
theorem d_Odds_weigh_32 : decode prog_2_method_2_code 32 = .ok (.iload_n 2, 1) := dd_Odds_weigh_0.2.2.2.2.2.2.2.2.2.2.2.2.2.2.2.2.2.2.2.2.1
theorem d_Odds_weigh_33 : decode prog_2_method_2_code 33 = .ok (.invokevirtual 31, 3) := dd_Odds_weigh_0.2.2.2.2.2.2.2.2.2.2.2.2.2.2.2.2.2.2.2.2.2.1
theorem d_Odds_weigh_36 : decode prog_2_method_2_code 36 = .ok (.istore 4, 2) := dd_Odds_weigh_0.2.2.2.2.2.2.2.2.2.2.2.2.2.2.2.2.2.2.2.2.2.2.1
theorem d_Odds_weigh_38 : decode prog_2_method_2_code 38 = .ok (.iconst 0, 1) := dd_Odds_weigh_0.2.2.2.2.2.2.2.2.2.2.2.2.2.2.2.2.2.2.2.2.2.2.2
set_option maxRecDepth 100000 in
theorem dd_Odds_weigh_39 : (decode prog_2_method_2_code 39 = .ok (.istore 5, 2)) ∧ (decode prog_2_method_2_code 41 = .ok (.iload 5, 2)) ∧ (decode prog_2_method_2_code 43 = .ok (.iload 4, 2)) ∧ (decode prog_2_method_2_code 45 = .ok (.if_icmp .ge 19, 3)) ∧ (decode prog_2_method_2_code 48 = .ok (.aload_n 0, 1)) ∧ (decode prog_2_method_2_code 49 = .ok (.aload_n 1, 1)) ∧ (decode prog_2_method_2_code 50 = .ok (.getfield 35, 3)) ∧ (decode prog_2_method_2_code 53 = .ok (.iload_n 3, 1)) ∧ (decode prog_2_method_2_code 54 = .ok (.iaload, 1)) ∧ (decode prog_2_method_2_code 55 = .ok (.invokevirtual 39, 3)) ∧ (decode prog_2_method_2_code 58 = .ok (.iinc 5 1, 3)) ∧ (decode prog_2_method_2_code 61 = .ok (.goto (-20), 3)) ∧ (decode prog_2_method_2_code 64 = .ok (.iinc 3 1, 3)) ∧ (decode prog_2_method_2_code 67 = .ok (.goto (-45), 3)) ∧ (decode prog_2_method_2_code 70 = .ok (.aload_n 0, 1)) ∧ (decode prog_2_method_2_code 71 = .ok (.lconst 0, 1)) ∧ (decode prog_2_method_2_code 72 = .ok (.putfield 43, 3)) ∧ (decode prog_2_method_2_code 75 = .ok (.aload_n 1, 1)) ∧ (decode prog_2_method_2_code 76 = .ok (.iload_n 2, 1)) ∧ (decode prog_2_method_2_code 77 = .ok (.invokevirtual 46, 3)) ∧ (decode prog_2_method_2_code 80 = .ok (.istore_n 3, 1)) ∧ (decode prog_2_method_2_code 81 = .ok (.iload_n 3, 1)) ∧ (decode prog_2_method_2_code 82 = .ok (.bipush 9, 2)) ∧ (decode prog_2_method_2_code 84 = .ok (.if_icmp .gt 24, 3)) := by
  have h : List.drop 39 prog_2_method_2_code.data.toList = 0x36 :: _ := rfl
  refine ⟨zq_k_u1 54 (fun z => .istore z) 5 h rfl (zq_o_54 _) (by decide +kernel), ?_⟩
  replace h := zq_nx2 (q := 41) h rfl
  refine ⟨zq_k_u1 21 (fun z => .iload z) 5 h rfl (zq_o_21 _) (by decide +kernel), ?_⟩
  replace h := zq_nx2 (q := 43) h rfl
  refine ⟨zq_k_u1 21 (fun z => .iload z) 4 h rfl (zq_o_21 _) (by decide +kernel), ?_⟩
  replace h := zq_nx2 (q := 45) h rfl
  refine ⟨zq_k_s2 162 (fun z => .if_icmp .ge z) 19 h rfl (zq_o_162 _) (by decide +kernel), ?_⟩
  replace h := zq_nx3 (q := 48) h rfl
  refine ⟨zq_k_n 42 h rfl (zq_o_42 _), ?_⟩
  replace h := zq_nx1 (q := 49) h rfl
  refine ⟨zq_k_n 43 h rfl (zq_o_43 _), ?_⟩
  replace h := zq_nx1 (q := 50) h rfl
  refine ⟨zq_k_u2 180 (fun z => .getfield z) 35 h rfl (zq_o_180 _) (by decide +kernel), ?_⟩
  replace h := zq_nx3 (q := 53) h rfl
  refine ⟨zq_k_n 29 h rfl (zq_o_29 _), ?_⟩
  replace h := zq_nx1 (q := 54) h rfl
  refine ⟨zq_k_n 46 h rfl (zq_o_46 _), ?_⟩
  replace h := zq_nx1 (q := 55) h rfl
  refine ⟨zq_k_u2 182 (fun z => .invokevirtual z) 39 h rfl (zq_o_182 _) (by decide +kernel), ?_⟩
  replace h := zq_nx3 (q := 58) h rfl
  refine ⟨zq_k_iinc 5 1 h rfl (zq_o_132 _) (by decide +kernel) (by decide +kernel), ?_⟩
  replace h := zq_nx3 (q := 61) h rfl
  refine ⟨zq_k_s2 167 (fun z => .goto z) (-20) h rfl (zq_o_167 _) (by decide +kernel), ?_⟩
  replace h := zq_nx3 (q := 64) h rfl
  refine ⟨zq_k_iinc 3 1 h rfl (zq_o_132 _) (by decide +kernel) (by decide +kernel), ?_⟩
  replace h := zq_nx3 (q := 67) h rfl
  refine ⟨zq_k_s2 167 (fun z => .goto z) (-45) h rfl (zq_o_167 _) (by decide +kernel), ?_⟩
  replace h := zq_nx3 (q := 70) h rfl
  refine ⟨zq_k_n 42 h rfl (zq_o_42 _), ?_⟩
  replace h := zq_nx1 (q := 71) h rfl
  refine ⟨zq_k_n 9 h rfl (zq_o_9 _), ?_⟩
  replace h := zq_nx1 (q := 72) h rfl
  refine ⟨zq_k_u2 181 (fun z => .putfield z) 43 h rfl (zq_o_181 _) (by decide +kernel), ?_⟩
  replace h := zq_nx3 (q := 75) h rfl
  refine ⟨zq_k_n 43 h rfl (zq_o_43 _), ?_⟩
  replace h := zq_nx1 (q := 76) h rfl
  refine ⟨zq_k_n 28 h rfl (zq_o_28 _), ?_⟩
  replace h := zq_nx1 (q := 77) h rfl
  refine ⟨zq_k_u2 182 (fun z => .invokevirtual z) 46 h rfl (zq_o_182 _) (by decide +kernel), ?_⟩
  replace h := zq_nx3 (q := 80) h rfl
  refine ⟨zq_k_n 62 h rfl (zq_o_62 _), ?_⟩
  replace h := zq_nx1 (q := 81) h rfl
  refine ⟨zq_k_n 29 h rfl (zq_o_29 _), ?_⟩
  replace h := zq_nx1 (q := 82) h rfl
  refine ⟨zq_k_s1 16 (fun z => .bipush z) 9 h rfl (zq_o_16 _) (by decide +kernel), ?_⟩
  replace h := zq_nx2 (q := 84) h rfl
  exact zq_k_s2 163 (fun z => .if_icmp .gt z) 24 h rfl (zq_o_163 _) (by decide +kernel)
theorem d_Odds_weigh_39 : decode prog_2_method_2_code 39 = .ok (.istore 5, 2) := dd_Odds_weigh_39.1
theorem d_Odds_weigh_41 : decode prog_2_method_2_code 41 = .ok (.iload 5, 2) := dd_Odds_weigh_39.2.1
theorem d_Odds_weigh_43 : decode prog_2_method_2_code 43 = .ok (.iload 4, 2) := dd_Odds_weigh_39.2.2.1
theorem d_Odds_weigh_45 : decode prog_2_method_2_code 45 = .ok (.if_icmp .ge 19, 3) := dd_Odds_weigh_39.2.2.2.1
theorem d_Odds_weigh_48 : decode prog_2_method_2_code 48 = .ok (.aload_n 0, 1) := dd_Odds_weigh_39.2.2.2.2.1
theorem d_Odds_weigh_49 : decode prog_2_method_2_code 49 = .ok (.aload_n 1, 1) := dd_Odds_weigh_39.2.2.2.2.2.1
theorem d_Odds_weigh_50 : decode prog_2_method_2_code 50 = .ok (.getfield 35, 3) := dd_Odds_weigh_39.2.2.2.2.2.2.1
theorem d_Odds_weigh_53 : decode prog_2_method_2_code 53 = .ok (.iload_n 3, 1) := dd_Odds_weigh_39.2.2.2.2.2.2.2.1
theorem d_Odds_weigh_54 : decode prog_2_method_2_code 54 = .ok (.iaload, 1) := dd_Odds_weigh_39.2.2.2.2.2.2.2.2.1
theorem d_Odds_weigh_55 : decode prog_2_method_2_code 55 = .ok (.invokevirtual 39, 3) := dd_Odds_weigh_39.2.2.2.2.2.2.2.2.2.1
theorem d_Odds_weigh_58 : decode prog_2_method_2_code 58 = .ok (.iinc 5 1, 3) := dd_Odds_weigh_39.2.2.2.2.2.2.2.2.2.2.1
theorem d_Odds_weigh_61 : decode prog_2_method_2_code 61 = .ok (.goto (-20), 3) := dd_Odds_weigh_39.2.2.2.2.2.2.2.2.2.2.2.1
theorem d_Odds_weigh_64 : decode prog_2_method_2_code 64 = .ok (.iinc 3 1, 3) := dd_Odds_weigh_39.2.2.2.2.2.2.2.2.2.2.2.2.1
theorem d_Odds_weigh_67 : decode prog_2_method_2_code 67 = .ok (.goto (-45), 3) := dd_Odds_weigh_39.2.2.2.2.2.2.2.2.2.2.2.2.2.1
theorem d_Odds_weigh_70 : decode prog_2_method_2_code 70 = .ok (.aload_n 0, 1) := dd_Odds_weigh_39.2.2.2.2.2.2.2.2.2.2.2.2.2.2.1
theorem d_Odds_weigh_71 : decode prog_2_method_2_code 71 = .ok (.lconst 0, 1) := dd_Odds_weigh_39.2.2.2.2.2.2.2.2.2.2.2.2.2.2.2.1
theorem d_Odds_weigh_72 : decode prog_2_method_2_code 72 = .ok (.putfield 43, 3) := dd_Odds_weigh_39.2.2.2.2.2.2.2.2.2.2.2.2.2.2.2.2.1
theorem d_Odds_weigh_75 : decode prog_2_method_2_code 75 = .ok (.aload_n 1, 1) := dd_Odds_weigh_39.2.2.2.2.2.2.2.2.2.2.2.2.2.2.2.2.2.1
theorem d_Odds_weigh_76 : decode prog_2_method_2_code 76 = .ok (.iload_n 2, 1) := dd_Odds_weigh_39.2.2.2.2.2.2.2.2.2.2.2.2.2.2.2.2.2.2.1
theorem d_Odds_weigh_77 : decode prog_2_method_2_code 77 = .ok (.invokevirtual 46, 3) := dd_Odds_weigh_39.2.2.2.2.2.2.2.2.2.2.2.2.2.2.2.2.2.2.2.1
theorem d_Odds_weigh_80 : decode prog_2_method_2_code 80 = .ok (.istore_n 3, 1) := dd_Odds_weigh_39.2.2.2.2.2.2.2.2.2.2.2.2.2.2.2.2.2.2.2.2.1
theorem d_Odds_weigh_81 : decode prog_2_method_2_code 81 = .ok (.iload_n 3, 1) := dd_Odds_weigh_39.2.2.2.2.2.2.2.2.2.2.2.2.2.2.2.2.2.2.2.2.2.1
theorem d_Odds_weigh_82 : decode prog_2_method_2_code 82 = .ok (.bipush 9, 2) := dd_Odds_weigh_39.2.2.2.2.2.2.2.2.2.2.2.2.2.2.2.2.2.2.2.2.2.2.1
theorem d_Odds_weigh_84 : decode prog_2_method_2_code 84 = .ok (.if_icmp .gt 24, 3) := dd_Odds_weigh_39.2.2.2.2.2.2.2.2.2.2.2.2.2.2.2.2.2.2.2.2.2.2.2
set_option maxRecDepth 100000 in
theorem dd_Odds_weigh_87 : (decode prog_2_method_2_code 87 = .ok (.aload_n 0, 1)) ∧ (decode prog_2_method_2_code 88 = .ok (.dup, 1)) ∧ (decode prog_2_method_2_code 89 = .ok (.getfield 43, 3)) ∧ (decode prog_2_method_2_code 92 = .ok (.aload_n 0, 1)) ∧ (decode prog_2_method_2_code 93 = .ok (.getfield 11, 3)) ∧ (decode prog_2_method_2_code 96 = .ok (.iload_n 3, 1)) ∧ (decode prog_2_method_2_code 97 = .ok (.laload, 1)) ∧ (decode prog_2_method_2_code 98 = .ok (.ladd, 1)) ∧ (decode prog_2_method_2_code 99 = .ok (.putfield 43, 3)) ∧ (decode prog_2_method_2_code 102 = .ok (.iinc 3 1, 3)) ∧ (decode prog_2_method_2_code 105 = .ok (.goto (-24), 3)) ∧ (decode prog_2_method_2_code 108 = .ok (.aload_n 0, 1)) ∧ (decode prog_2_method_2_code 109 = .ok (.invokevirtual 50, 3)) ∧ (decode prog_2_method_2_code 112 = .ok (.return_, 1)) := by
  have h : List.drop 87 prog_2_method_2_code.data.toList = 0x2a :: _ := rfl
  refine ⟨zq_k_n 42 h rfl (zq_o_42 _), ?_⟩
  replace h := zq_nx1 (q := 88) h rfl
  refine ⟨zq_k_n 89 h rfl (zq_o_89 _), ?_⟩
  replace h := zq_nx1 (q := 89) h rfl
  refine ⟨zq_k_u2 180 (fun z => .getfield z) 43 h rfl (zq_o_180 _) (by decide +kernel), ?_⟩
  replace h := zq_nx3 (q := 92) h rfl
  refine ⟨zq_k_n 42 h rfl (zq_o_42 _), ?_⟩
  replace h := zq_nx1 (q := 93) h rfl
  refine ⟨zq_k_u2 180 (fun z => .getfield z) 11 h rfl (zq_o_180 _) (by decide +kernel), ?_⟩
  replace h := zq_nx3 (q := 96) h rfl
  refine ⟨zq_k_n 29 h rfl (zq_o_29 _), ?_⟩
  replace h := zq_nx1 (q := 97) h rfl
  refine ⟨zq_k_n 47 h rfl (zq_o_47 _), ?_⟩
  replace h := zq_nx1 (q := 98) h rfl
  refine ⟨zq_k_n 97 h rfl (zq_o_97 _), ?_⟩
  replace h := zq_nx1 (q := 99) h rfl
  refine ⟨zq_k_u2 181 (fun z => .putfield z) 43 h rfl (zq_o_181 _) (by decide +kernel), ?_⟩
  replace h := zq_nx3 (q := 102) h rfl
  refine ⟨zq_k_iinc 3 1 h rfl (zq_o_132 _) (by decide +kernel) (by decide +kernel), ?_⟩
  replace h := zq_nx3 (q := 105) h rfl
  refine ⟨zq_k_s2 167 (fun z => .goto z) (-24) h rfl (zq_o_167 _) (by decide +kernel), ?_⟩
  replace h := zq_nx3 (q := 108) h rfl
  refine ⟨zq_k_n 42 h rfl (zq_o_42 _), ?_⟩
  replace h := zq_nx1 (q := 109) h rfl
  refine ⟨zq_k_u2 182 (fun z => .invokevirtual z) 50 h rfl (zq_o_182 _) (by decide +kernel), ?_⟩
  replace h := zq_nx3 (q := 112) h rfl
  exact zq_k_n 177 h rfl (zq_o_177 _)
theorem d_Odds_weigh_87 : decode prog_2_method_2_code 87 = .ok (.aload_n 0, 1) := dd_Odds_weigh_87.1
theorem d_Odds_weigh_88 : decode prog_2_method_2_code 88 = .ok (.dup, 1) := dd_Odds_weigh_87.2.1
theorem d_Odds_weigh_89 : decode prog_2_method_2_code 89 = .ok (.getfield 43, 3) := dd_Odds_weigh_87.2.2.1
theorem d_Odds_weigh_92 : decode prog_2_method_2_code 92 = .ok (.aload_n 0, 1) := dd_Odds_weigh_87.2.2.2.1
theorem d_Odds_weigh_93 : decode prog_2_method_2_code 93 = .ok (.getfield 11, 3) := dd_Odds_weigh_87.2.2.2.2.1
theorem d_Odds_weigh_96 : decode prog_2_method_2_code 96 = .ok (.iload_n 3, 1) := dd_Odds_weigh_87.2.2.2.2.2.1
theorem d_Odds_weigh_97 : decode prog_2_method_2_code 97 = .ok (.laload, 1) := dd_Odds_weigh_87.2.2.2.2.2.2.1
theorem d_Odds_weigh_98 : decode prog_2_method_2_code 98 = .ok (.ladd, 1) := dd_Odds_weigh_87.2.2.2.2.2.2.2.1
theorem d_Odds_weigh_99 : decode prog_2_method_2_code 99 = .ok (.putfield 43, 3) := dd_Odds_weigh_87.2.2.2.2.2.2.2.2.1
theorem d_Odds_weigh_102 : decode prog_2_method_2_code 102 = .ok (.iinc 3 1, 3) := dd_Odds_weigh_87.2.2.2.2.2.2.2.2.2.1
theorem d_Odds_weigh_105 : decode prog_2_method_2_code 105 = .ok (.goto (-24), 3) := dd_Odds_weigh_87.2.2.2.2.2.2.2.2.2.2.1
theorem d_Odds_weigh_108 : decode prog_2_method_2_code 108 = .ok (.aload_n 0, 1) := dd_Odds_weigh_87.2.2.2.2.2.2.2.2.2.2.2.1
theorem d_Odds_weigh_109 : decode prog_2_method_2_code 109 = .ok (.invokevirtual 50, 3) := dd_Odds_weigh_87.2.2.2.2.2.2.2.2.2.2.2.2.1
theorem d_Odds_weigh_112 : decode prog_2_method_2_code 112 = .ok (.return_, 1) := dd_Odds_weigh_87.2.2.2.2.2.2.2.2.2.2.2.2.2
def f_Odds_weigh_81b (rec81 : Nat → Int32 → mH → Option mH) (b0 : Nat) (b3 : Int32) (h : mH) : Option mH :=
  if (9 : Int32) < b3 then
    bd1 (kC h b0 1) fun _ =>
    bd1 (f_Odds_reduce b0 h) fun h37 =>
    some h37
  else
    bd1 (gL h b0 1 0) fun x39 =>
    bd1 (gR h b0 1 2) fun x41 =>
    bd1 (aL h x41 b3) fun x43 =>
    bd1 (pV h b0 1 0 (.long (x39 + x43))) fun h45 =>
    rec81 b0 (b3 + (1 : Int32)) h45
set_option maxRecDepth 20000 in
theorem t_Odds_weigh_81b {sc : Nat × (Nat → Int32)} (rec81 : Nat → Int32 → mH → Option mH) (hrec81 : ∀ (b0 : Nat) (b3 : Int32) (h : mH) (h' : mH), rec81 b0 b3 h = some h' → G sc y_Odds_weigh prog_2_method_2_code 6 none 3 67 81 [(0, .ref b0), (3, .int b3)] [] h none h') (b0 : Nat) (b3 : Int32) (h : mH) (h' : mH) (hf : f_Odds_weigh_81b rec81 b0 b3 h = some h') : G sc y_Odds_weigh prog_2_method_2_code 6 none 3 67 81 [(0, .ref b0), (3, .int b3)] [] h none h' := by
  unfold f_Odds_weigh_81b at hf
  refine g_iload_n (pc := 81) 1 d_Odds_weigh_81 rfl rfl ?_
  refine g_bipush (pc := 82) (9 : Int32) d_Odds_weigh_82 (by decide) ?_
  refine g_icmpgt (pc := 84) 108 d_Odds_weigh_84 (by decide) (fun c47 => ?_) (fun c47 => ?_)
  · replace hf := (if_pos c47).symm.trans hf
    refine g_aload_n (pc := 108) 0 d_Odds_weigh_108 rfl rfl ?_
    obtain ⟨u36, e35, hf⟩ := bd1_e hf
    obtain ⟨h37, e38, hf⟩ := bd1_e hf
    refine g_callV (pc := 109) (ci := 1) [] (site_of si_Odds_reduce (by decide) (by decide)) wd_764 wd_766 wp_22 d_Odds_weigh_109 rfl e35 (Nat.le_of_ble_eq_true rfl) (fun z => absurd z (by decide)) (fun z => absurd z (by decide)) (fun z => absurd z (by decide)) (c_Odds_reduce e38) rfl ?_
    refine g_st [] rfl ?_
    obtain rfl := ret1 hf
    exact g_vret (pc := 112) rfl d_Odds_weigh_112
  · replace hf := (if_neg c47).symm.trans hf
    refine g_aload_n (pc := 87) 0 d_Odds_weigh_87 rfl rfl ?_
    refine g_dup (pc := 88) d_Odds_weigh_88 rfl ?_
    obtain ⟨x39, e40, hf⟩ := bd1_e hf
    refine g_get (pc := 89) (ci := 1) (kk := 0) d_Odds_weigh_89 rfl in_Odds (by decide) wd_268 (gL_spec e40) ?_
    refine g_aload_n (pc := 92) 0 d_Odds_weigh_92 rfl rfl ?_
    obtain ⟨x41, e42, hf⟩ := bd1_e hf
    refine g_get (pc := 93) (ci := 1) (kk := 2) d_Odds_weigh_93 rfl in_Odds (by decide) wd_272 (gR_spec e42) ?_
    refine g_iload_n (pc := 96) 1 d_Odds_weigh_96 rfl rfl ?_
    obtain ⟨x43, e44, hf⟩ := bd1_e hf
    refine g_lald (pc := 97) d_Odds_weigh_97 e44 ?_
    refine g_ladd (pc := 98) d_Odds_weigh_98 ?_
    obtain ⟨h45, e46, hf⟩ := bd1_e hf
    refine g_put (pc := 99) (ci := 1) (kk := 0) ty_Odds tyok_Odds nm_Odds d_Odds_weigh_99 rfl in_Odds (by decide) wd_268 rfl (fun _ => rfl) (fun _ => rfl) (fun _ z => by cases z) e46 ?_
    refine g_iinc (pc := 102) 1 (b3 + (1 : Int32)) [(3, .int (b3 + (1 : Int32))), (0, .ref b0)] d_Odds_weigh_102 rfl rfl (Nat.le_of_ble_eq_true rfl) rfl ?_
    refine g_goto (pc := 105) 81 d_Odds_weigh_105 (by decide) ?_
    refine g_lv [1, 0] rfl ?_
    exact hrec81 _ _ _ _  hf
def f_Odds_weigh_81  : Nat → Nat → Int32 → mH → Option mH
  | 0 => fun _ _ _ => none
  | n + 1 => f_Odds_weigh_81b  (f_Odds_weigh_81  n)
theorem t_Odds_weigh_81 {sc : Nat × (Nat → Int32)}  : ∀ (n : Nat) (b0 : Nat) (b3 : Int32) (h : mH) (h' : mH) (hf : f_Odds_weigh_81  n b0 b3 h = some h'), G sc y_Odds_weigh prog_2_method_2_code 6 none 3 67 81 [(0, .ref b0), (3, .int b3)] [] h none h'
  | 0, _, _, _, _, hf => by cases hf
  | n + 1, _, _, _, _, hf => t_Odds_weigh_81b  (f_Odds_weigh_81  n) (t_Odds_weigh_81  n) _ _ _ _ hf
def f_Odds_weigh_41b (rec22 : Nat → Nat → Int32 → Int32 → mH → Option mH) (rec41 : Nat → Nat → Int32 → Int32 → Int32 → Int32 → mH → Option mH) (b0 : Nat) (b1 : Nat) (b2 : Int32) (b3 : Int32) (b4 : Int32) (b5 : Int32) (h : mH) : Option mH :=
  if b4 ≤ b5 then
    rec22 b0 b1 b2 (b3 + (1 : Int32)) h
  else
    bd1 (gR h b1 4 13) fun x26 =>
    bd1 (aI h 0 x26 b3) fun x28 =>
    bd1 (kC h b0 1) fun _ =>
    bd1 (f_Odds_addTry b0 x28 h) fun h32 =>
    rec41 b0 b1 b2 b3 b4 (b5 + (1 : Int32)) h32
set_option maxRecDepth 20000 in
theorem t_Odds_weigh_41b {sc : Nat × (Nat → Int32)} (rec22 : Nat → Nat → Int32 → Int32 → mH → Option mH) (hrec22 : ∀ (b0 : Nat) (b1 : Nat) (b2 : Int32) (b3 : Int32) (h : mH) (h' : mH), rec22 b0 b1 b2 b3 h = some h' → G sc y_Odds_weigh prog_2_method_2_code 6 none 3 67 22 [(0, .ref b0), (1, .ref b1), (2, .int b2), (3, .int b3)] [] h none h') (rec41 : Nat → Nat → Int32 → Int32 → Int32 → Int32 → mH → Option mH) (hrec41 : ∀ (b0 : Nat) (b1 : Nat) (b2 : Int32) (b3 : Int32) (b4 : Int32) (b5 : Int32) (h : mH) (h' : mH), rec41 b0 b1 b2 b3 b4 b5 h = some h' → G sc y_Odds_weigh prog_2_method_2_code 6 none 3 67 41 [(0, .ref b0), (1, .ref b1), (2, .int b2), (3, .int b3), (4, .int b4), (5, .int b5)] [] h none h') (b0 : Nat) (b1 : Nat) (b2 : Int32) (b3 : Int32) (b4 : Int32) (b5 : Int32) (h : mH) (h' : mH) (hf : f_Odds_weigh_41b rec22 rec41 b0 b1 b2 b3 b4 b5 h = some h') : G sc y_Odds_weigh prog_2_method_2_code 6 none 3 67 41 [(0, .ref b0), (1, .ref b1), (2, .int b2), (3, .int b3), (4, .int b4), (5, .int b5)] [] h none h' := by
  unfold f_Odds_weigh_41b at hf
  refine g_iload (pc := 41) 5 d_Odds_weigh_41 rfl ?_
  refine g_iload (pc := 43) 4 d_Odds_weigh_43 rfl ?_
  refine g_icmpge (pc := 45) 64 d_Odds_weigh_45 (by decide) (fun c34 => ?_) (fun c34 => ?_)
  · replace hf := (if_pos c34).symm.trans hf
    refine g_iinc (pc := 64) 3 (b3 + (1 : Int32)) [(3, .int (b3 + (1 : Int32))), (0, .ref b0), (1, .ref b1), (2, .int b2), (4, .int b4), (5, .int b5)] d_Odds_weigh_64 rfl rfl (Nat.le_of_ble_eq_true rfl) rfl ?_
    refine g_goto (pc := 67) 22 d_Odds_weigh_67 (by decide) ?_
    refine g_lv [1, 2, 3, 0] rfl ?_
    exact hrec22 _ _ _ _ _ _  hf
  · replace hf := (if_neg c34).symm.trans hf
    refine g_aload_n (pc := 48) 0 d_Odds_weigh_48 rfl rfl ?_
    refine g_aload_n (pc := 49) 1 d_Odds_weigh_49 rfl rfl ?_
    obtain ⟨x26, e27, hf⟩ := bd1_e hf
    refine g_get (pc := 50) (ci := 4) (kk := 13) d_Odds_weigh_50 rfl in_Realm (by decide) wd_139 (gR_spec e27) ?_
    refine g_iload_n (pc := 53) 3 d_Odds_weigh_53 rfl rfl ?_
    obtain ⟨x28, e29, hf⟩ := bd1_e hf
    refine g_iald (pc := 54) d_Odds_weigh_54 e29 ?_
    obtain ⟨u31, e30, hf⟩ := bd1_e hf
    obtain ⟨h32, e33, hf⟩ := bd1_e hf
    refine g_callV (pc := 55) (ci := 1) [.int x28] (site_of si_Odds_addTry (by decide) (by decide)) wd_758 wd_760 wp_21 d_Odds_weigh_55 rfl e30 (Nat.le_of_ble_eq_true rfl) (fun z => absurd z (by decide)) (fun z => absurd z (by decide)) (fun z => absurd z (by decide)) (c_Odds_addTry e33) rfl ?_
    refine g_st [] rfl ?_
    refine g_iinc (pc := 58) 5 (b5 + (1 : Int32)) [(5, .int (b5 + (1 : Int32))), (0, .ref b0), (1, .ref b1), (2, .int b2), (3, .int b3), (4, .int b4)] d_Odds_weigh_58 rfl rfl (Nat.le_of_ble_eq_true rfl) rfl ?_
    refine g_goto (pc := 61) 41 d_Odds_weigh_61 (by decide) ?_
    refine g_lv [1, 2, 3, 4, 5, 0] rfl ?_
    exact hrec41 _ _ _ _ _ _ _ _  hf
def f_Odds_weigh_41 (rec22 : Nat → Nat → Int32 → Int32 → mH → Option mH) : Nat → Nat → Nat → Int32 → Int32 → Int32 → Int32 → mH → Option mH
  | 0 => fun _ _ _ _ _ _ _ => none
  | n + 1 => f_Odds_weigh_41b rec22 (f_Odds_weigh_41 rec22 n)
theorem t_Odds_weigh_41 {sc : Nat × (Nat → Int32)} (rec22 : Nat → Nat → Int32 → Int32 → mH → Option mH) (hrec22 : ∀ (b0 : Nat) (b1 : Nat) (b2 : Int32) (b3 : Int32) (h : mH) (h' : mH), rec22 b0 b1 b2 b3 h = some h' → G sc y_Odds_weigh prog_2_method_2_code 6 none 3 67 22 [(0, .ref b0), (1, .ref b1), (2, .int b2), (3, .int b3)] [] h none h') : ∀ (n : Nat) (b0 : Nat) (b1 : Nat) (b2 : Int32) (b3 : Int32) (b4 : Int32) (b5 : Int32) (h : mH) (h' : mH) (hf : f_Odds_weigh_41 rec22 n b0 b1 b2 b3 b4 b5 h = some h'), G sc y_Odds_weigh prog_2_method_2_code 6 none 3 67 41 [(0, .ref b0), (1, .ref b1), (2, .int b2), (3, .int b3), (4, .int b4), (5, .int b5)] [] h none h'
  | 0, _, _, _, _, _, _, _, _, hf => by cases hf
  | n + 1, _, _, _, _, _, _, _, _, hf => t_Odds_weigh_41b rec22 hrec22 (f_Odds_weigh_41 rec22 n) (t_Odds_weigh_41 rec22 hrec22 n) _ _ _ _ _ _ _ _ hf
def f_Odds_weigh_22b (rec22 : Nat → Nat → Int32 → Int32 → mH → Option mH) (b0 : Nat) (b1 : Nat) (b2 : Int32) (b3 : Int32) (h : mH) : Option mH :=
  bd1 (gI h b1 4 1) fun x11 =>
  if x11 ≤ b3 then
    bd1 (pV h b0 1 0 (.long (0 : Int64))) fun h13 =>
    bd1 (kC h13 b1 4) fun _ =>
    bd2 (f_Realm_needOf b1 b2 h13) fun x19 h17 =>
    f_Odds_weigh_81  FU b0 x19 h17
  else
    bd1 (kC h b1 4) fun _ =>
    bd2 (f_Realm_ableAlone b1 b3 b2 h) fun x24 h22 =>
    f_Odds_weigh_41 rec22 FU b0 b1 b2 b3 x24 (0 : Int32) h22
set_option maxRecDepth 20000 in
theorem t_Odds_weigh_22b {sc : Nat × (Nat → Int32)} (rec22 : Nat → Nat → Int32 → Int32 → mH → Option mH) (hrec22 : ∀ (b0 : Nat) (b1 : Nat) (b2 : Int32) (b3 : Int32) (h : mH) (h' : mH), rec22 b0 b1 b2 b3 h = some h' → G sc y_Odds_weigh prog_2_method_2_code 6 none 3 67 22 [(0, .ref b0), (1, .ref b1), (2, .int b2), (3, .int b3)] [] h none h') (b0 : Nat) (b1 : Nat) (b2 : Int32) (b3 : Int32) (h : mH) (h' : mH) (hf : f_Odds_weigh_22b rec22 b0 b1 b2 b3 h = some h') : G sc y_Odds_weigh prog_2_method_2_code 6 none 3 67 22 [(0, .ref b0), (1, .ref b1), (2, .int b2), (3, .int b3)] [] h none h' := by
  unfold f_Odds_weigh_22b at hf
  refine g_iload_n (pc := 22) 3 d_Odds_weigh_22 rfl rfl ?_
  refine g_aload_n (pc := 23) 1 d_Odds_weigh_23 rfl rfl ?_
  obtain ⟨x11, e12, hf⟩ := bd1_e hf
  refine g_get (pc := 24) (ci := 4) (kk := 1) d_Odds_weigh_24 rfl in_Realm (by decide) wd_99 (gI_spec e12) ?_
  refine g_icmpge (pc := 27) 70 d_Odds_weigh_27 (by decide) (fun c25 => ?_) (fun c25 => ?_)
  · replace hf := (if_pos c25).symm.trans hf
    refine g_aload_n (pc := 70) 0 d_Odds_weigh_70 rfl rfl ?_
    refine g_lconst (pc := 71) (0 : Int64) d_Odds_weigh_71 (by decide) ?_
    obtain ⟨h13, e14, hf⟩ := bd1_e hf
    refine g_put (pc := 72) (ci := 1) (kk := 0) ty_Odds tyok_Odds nm_Odds d_Odds_weigh_72 rfl in_Odds (by decide) wd_268 rfl (fun _ => rfl) (fun _ => rfl) (fun _ z => by cases z) e14 ?_
    refine g_aload_n (pc := 75) 1 d_Odds_weigh_75 rfl rfl ?_
    refine g_iload_n (pc := 76) 2 d_Odds_weigh_76 rfl rfl ?_
    obtain ⟨u16, e15, hf⟩ := bd1_e hf
    obtain ⟨x19, h17, e18, hf⟩ := bd2_e hf
    refine g_callV (pc := 77) (ci := 4) [.int b2] (site_of si_Realm_needOf (by decide) (by decide)) wd_763 wd_521 wd_522 d_Odds_weigh_77 rfl e15 (Nat.le_of_ble_eq_true rfl) (fun z => absurd z (by decide)) (fun z => absurd z (by decide)) (fun z => absurd z (by decide)) (c_Realm_needOf e18) rfl ?_
    refine g_st [.int x19] rfl ?_
    refine g_istore_n (pc := 80) [(3, .int x19), (0, .ref b0), (1, .ref b1), (2, .int b2)] d_Odds_weigh_80 rfl (Nat.le_of_ble_eq_true rfl) rfl ?_
    refine g_lv [1, 0] rfl ?_
    exact t_Odds_weigh_81  FU _ _ _ _  hf
  · replace hf := (if_neg c25).symm.trans hf
    refine g_aload_n (pc := 30) 1 d_Odds_weigh_30 rfl rfl ?_
    refine g_iload_n (pc := 31) 3 d_Odds_weigh_31 rfl rfl ?_
    refine g_iload_n (pc := 32) 2 d_Odds_weigh_32 rfl rfl ?_
    obtain ⟨u21, e20, hf⟩ := bd1_e hf
    obtain ⟨x24, h22, e23, hf⟩ := bd2_e hf
    refine g_callV (pc := 33) (ci := 4) [.int b3, .int b2] (site_of si_Realm_ableAlone (by decide) (by decide)) wd_757 wd_551 wd_552 d_Odds_weigh_33 rfl e20 (Nat.le_of_ble_eq_true rfl) (fun z => absurd z (by decide)) (fun z => absurd z (by decide)) (fun z => absurd z (by decide)) (c_Realm_ableAlone e23) rfl ?_
    refine g_st [.int x24] rfl ?_
    refine g_istore (pc := 36) [(4, .int x24), (0, .ref b0), (1, .ref b1), (2, .int b2), (3, .int b3)] d_Odds_weigh_36 (Nat.le_of_ble_eq_true rfl) rfl ?_
    refine g_iconst (pc := 38) (0 : Int32) d_Odds_weigh_38 (by decide) ?_
    refine g_istore (pc := 39) [(5, .int (0 : Int32)), (4, .int x24), (0, .ref b0), (1, .ref b1), (2, .int b2), (3, .int b3)] d_Odds_weigh_39 (Nat.le_of_ble_eq_true rfl) rfl ?_
    refine g_lv [2, 3, 4, 5, 1, 0] rfl ?_
    exact t_Odds_weigh_41 rec22 hrec22 FU _ _ _ _ _ _ _ _  hf
def f_Odds_weigh_22  : Nat → Nat → Nat → Int32 → Int32 → mH → Option mH
  | 0 => fun _ _ _ _ _ => none
  | n + 1 => f_Odds_weigh_22b  (f_Odds_weigh_22  n)
theorem t_Odds_weigh_22 {sc : Nat × (Nat → Int32)}  : ∀ (n : Nat) (b0 : Nat) (b1 : Nat) (b2 : Int32) (b3 : Int32) (h : mH) (h' : mH) (hf : f_Odds_weigh_22  n b0 b1 b2 b3 h = some h'), G sc y_Odds_weigh prog_2_method_2_code 6 none 3 67 22 [(0, .ref b0), (1, .ref b1), (2, .int b2), (3, .int b3)] [] h none h'
  | 0, _, _, _, _, _, _, hf => by cases hf
  | n + 1, _, _, _, _, _, _, hf => t_Odds_weigh_22b  (f_Odds_weigh_22  n) (t_Odds_weigh_22  n) _ _ _ _ _ _ hf
def f_Odds_weigh_0  (a0 : Nat) (a1 : Nat) (a2 : Int32) (h : mH) : Option mH :=
  bd1 (gR h a0 1 2) fun x1 =>
  bd1 (f_Arrays_fillJ x1 (0 : Int64) h) fun h3 =>
  bd1 (gR h3 a0 1 2) fun x5 =>
  bd1 (sL h3 x5 (0 : Int32) (1 : Int64)) fun h7 =>
  bd1 (pV h7 a0 1 1 (.long (1 : Int64))) fun h9 =>
  f_Odds_weigh_22  FU a0 a1 a2 (0 : Int32) h9
set_option maxRecDepth 20000 in
theorem t_Odds_weigh_0 {sc : Nat × (Nat → Int32)}  (a0 : Nat) (a1 : Nat) (a2 : Int32) (h : mH) (h' : mH) (hf : f_Odds_weigh_0  a0 a1 a2 h = some h') : G sc y_Odds_weigh prog_2_method_2_code 6 none 3 67 0 [(0, .ref a0), (1, .ref a1), (2, .int a2)] [] h none h' := by
  unfold f_Odds_weigh_0 at hf
  refine g_aload_n (pc := 0) 0 d_Odds_weigh_0 rfl rfl ?_
  obtain ⟨x1, e2, hf⟩ := bd1_e hf
  refine g_get (pc := 1) (ci := 1) (kk := 2) d_Odds_weigh_1 rfl in_Odds (by decide) wd_272 (gR_spec e2) ?_
  refine g_lconst (pc := 4) (0 : Int64) d_Odds_weigh_4 (by decide) ?_
  obtain ⟨h3, e4, hf⟩ := bd1_e hf
  refine g_callS (pc := 5) [.ref x1, .long (0 : Int64)] (site_of si_Arrays_fillJ (by decide) (by decide)) wd_754 wd_755 d_Odds_weigh_5 (Nat.le_of_ble_eq_true rfl) (fun z => absurd z (by decide)) (fun z => absurd z (by decide)) (fun z => absurd z (by decide)) (c_Arrays_fillJ e4) rfl ?_
  refine g_st [] rfl ?_
  refine g_aload_n (pc := 8) 0 d_Odds_weigh_8 rfl rfl ?_
  obtain ⟨x5, e6, hf⟩ := bd1_e hf
  refine g_get (pc := 9) (ci := 1) (kk := 2) d_Odds_weigh_9 rfl in_Odds (by decide) wd_272 (gR_spec e6) ?_
  refine g_iconst (pc := 12) (0 : Int32) d_Odds_weigh_12 (by decide) ?_
  refine g_lconst (pc := 13) (1 : Int64) d_Odds_weigh_13 (by decide) ?_
  obtain ⟨h7, e8, hf⟩ := bd1_e hf
  refine g_last (pc := 14) d_Odds_weigh_14 e8 ?_
  refine g_aload_n (pc := 15) 0 d_Odds_weigh_15 rfl rfl ?_
  refine g_lconst (pc := 16) (1 : Int64) d_Odds_weigh_16 (by decide) ?_
  obtain ⟨h9, e10, hf⟩ := bd1_e hf
  refine g_put (pc := 17) (ci := 1) (kk := 1) ty_Odds tyok_Odds nm_Odds d_Odds_weigh_17 rfl in_Odds (by decide) wd_270 rfl (fun _ => rfl) (fun _ => rfl) (fun _ z => by cases z) e10 ?_
  refine g_iconst (pc := 20) (0 : Int32) d_Odds_weigh_20 (by decide) ?_
  refine g_istore_n (pc := 21) [(3, .int (0 : Int32)), (0, .ref a0), (1, .ref a1), (2, .int a2)] d_Odds_weigh_21 rfl (Nat.le_of_ble_eq_true rfl) rfl ?_
  refine g_lv [1, 2, 3, 0] rfl ?_
  exact t_Odds_weigh_22  FU _ _ _ _ _ _  hf
def f_Odds_weigh (a0 : Nat) (a1 : Nat) (a2 : Int32) (h : mH) : Option mH := f_Odds_weigh_0 a0 a1 a2 h
theorem c_Odds_weigh {sc : Nat × (Nat → Int32)} {a0 : Nat} {a1 : Nat} {a2 : Int32} {h : mH} {h' : mH} (hf : f_Odds_weigh a0 a1 a2 h = some h') : MM sc y_Odds_weigh prog_2_method_2_code 6 none 3 67 [.ref a0, .ref a1, .int a2] h none h' :=
  mm_of_G (by decide) (Nat.le_of_ble_eq_true rfl) (t_Odds_weigh_0 _ _ _ _ _ hf)
/-! Q luck (II)J -/
set_option maxRecDepth 100000 in
theorem dd_Q_luck_0 : (decode prog_1_method_27_code 0 = .ok (.aload_n 0, 1)) ∧ (decode prog_1_method_27_code 1 = .ok (.getfield 19, 3)) ∧ (decode prog_1_method_27_code 4 = .ok (.iload_n 1, 1)) ∧ (decode prog_1_method_27_code 5 = .ok (.invokevirtual 109, 3)) ∧ (decode prog_1_method_27_code 8 = .ok (.ifCond .eq 12, 3)) ∧ (decode prog_1_method_27_code 11 = .ok (.iload_n 2, 1)) ∧ (decode prog_1_method_27_code 12 = .ok (.iconst 0, 1)) ∧ (decode prog_1_method_27_code 13 = .ok (.iconst 1, 1)) ∧ (decode prog_1_method_27_code 14 = .ok (.invokestatic 62, 3)) ∧ (decode prog_1_method_27_code 17 = .ok (.ifCond .ne 7, 3)) ∧ (decode prog_1_method_27_code 20 = .ok (.ldc2_w 223, 3)) ∧ (decode prog_1_method_27_code 23 = .ok (.lreturn, 1)) ∧ (decode prog_1_method_27_code 24 = .ok (.aload_n 0, 1)) ∧ (decode prog_1_method_27_code 25 = .ok (.getfield 57, 3)) ∧ (decode prog_1_method_27_code 28 = .ok (.aload_n 0, 1)) ∧ (decode prog_1_method_27_code 29 = .ok (.getfield 19, 3)) ∧ (decode prog_1_method_27_code 32 = .ok (.iload_n 1, 1)) ∧ (decode prog_1_method_27_code 33 = .ok (.invokevirtual 225, 3)) ∧ (decode prog_1_method_27_code 36 = .ok (.iload_n 2, 1)) ∧ (decode prog_1_method_27_code 37 = .ok (.ifCond .ne 13, 3)) ∧ (decode prog_1_method_27_code 40 = .ok (.aload_n 0, 1)) ∧ (decode prog_1_method_27_code 41 = .ok (.getfield 57, 3)) ∧ (decode prog_1_method_27_code 44 = .ok (.getfield 229, 3)) ∧ (decode prog_1_method_27_code 47 = .ok (.goto 10, 3)) := by
  have h : List.drop 0 prog_1_method_27_code.data.toList = 0x2a :: _ := rfl
  refine ⟨zq_k_n 42 h rfl (zq_o_42 _), ?_⟩
  replace h := zq_nx1 (q := 1) h rfl
  refine ⟨zq_k_u2 180 (fun z => .getfield z) 19 h rfl (zq_o_180 _) (by decide +kernel), ?_⟩
  replace h := zq_nx3 (q := 4) h rfl
  refine ⟨zq_k_n 27 h rfl (zq_o_27 _), ?_⟩
  replace h := zq_nx1 (q := 5) h rfl
  refine ⟨zq_k_u2 182 (fun z => .invokevirtual z) 109 h rfl (zq_o_182 _) (by decide +kernel), ?_⟩
  replace h := zq_nx3 (q := 8) h rfl
  refine ⟨zq_k_s2 153 (fun z => .ifCond .eq z) 12 h rfl (zq_o_153 _) (by decide +kernel), ?_⟩
  replace h := zq_nx3 (q := 11) h rfl
  refine ⟨zq_k_n 28 h rfl (zq_o_28 _), ?_⟩
  replace h := zq_nx1 (q := 12) h rfl
  refine ⟨zq_k_n 3 h rfl (zq_o_3 _), ?_⟩
  replace h := zq_nx1 (q := 13) h rfl
  refine ⟨zq_k_n 4 h rfl (zq_o_4 _), ?_⟩
  replace h := zq_nx1 (q := 14) h rfl
  refine ⟨zq_k_u2 184 (fun z => .invokestatic z) 62 h rfl (zq_o_184 _) (by decide +kernel), ?_⟩
  replace h := zq_nx3 (q := 17) h rfl
  refine ⟨zq_k_s2 154 (fun z => .ifCond .ne z) 7 h rfl (zq_o_154 _) (by decide +kernel), ?_⟩
  replace h := zq_nx3 (q := 20) h rfl
  refine ⟨zq_k_u2 20 (fun z => .ldc2_w z) 223 h rfl (zq_o_20 _) (by decide +kernel), ?_⟩
  replace h := zq_nx3 (q := 23) h rfl
  refine ⟨zq_k_n 173 h rfl (zq_o_173 _), ?_⟩
  replace h := zq_nx1 (q := 24) h rfl
  refine ⟨zq_k_n 42 h rfl (zq_o_42 _), ?_⟩
  replace h := zq_nx1 (q := 25) h rfl
  refine ⟨zq_k_u2 180 (fun z => .getfield z) 57 h rfl (zq_o_180 _) (by decide +kernel), ?_⟩
  replace h := zq_nx3 (q := 28) h rfl
  refine ⟨zq_k_n 42 h rfl (zq_o_42 _), ?_⟩
  replace h := zq_nx1 (q := 29) h rfl
  refine ⟨zq_k_u2 180 (fun z => .getfield z) 19 h rfl (zq_o_180 _) (by decide +kernel), ?_⟩
  replace h := zq_nx3 (q := 32) h rfl
  refine ⟨zq_k_n 27 h rfl (zq_o_27 _), ?_⟩
  replace h := zq_nx1 (q := 33) h rfl
  refine ⟨zq_k_u2 182 (fun z => .invokevirtual z) 225 h rfl (zq_o_182 _) (by decide +kernel), ?_⟩
  replace h := zq_nx3 (q := 36) h rfl
  refine ⟨zq_k_n 28 h rfl (zq_o_28 _), ?_⟩
  replace h := zq_nx1 (q := 37) h rfl
  refine ⟨zq_k_s2 154 (fun z => .ifCond .ne z) 13 h rfl (zq_o_154 _) (by decide +kernel), ?_⟩
  replace h := zq_nx3 (q := 40) h rfl
  refine ⟨zq_k_n 42 h rfl (zq_o_42 _), ?_⟩
  replace h := zq_nx1 (q := 41) h rfl
  refine ⟨zq_k_u2 180 (fun z => .getfield z) 57 h rfl (zq_o_180 _) (by decide +kernel), ?_⟩
  replace h := zq_nx3 (q := 44) h rfl
  refine ⟨zq_k_u2 180 (fun z => .getfield z) 229 h rfl (zq_o_180 _) (by decide +kernel), ?_⟩
  replace h := zq_nx3 (q := 47) h rfl
  exact zq_k_s2 167 (fun z => .goto z) 10 h rfl (zq_o_167 _) (by decide +kernel)
theorem d_Q_luck_0 : decode prog_1_method_27_code 0 = .ok (.aload_n 0, 1) := dd_Q_luck_0.1
theorem d_Q_luck_1 : decode prog_1_method_27_code 1 = .ok (.getfield 19, 3) := dd_Q_luck_0.2.1
theorem d_Q_luck_4 : decode prog_1_method_27_code 4 = .ok (.iload_n 1, 1) := dd_Q_luck_0.2.2.1
theorem d_Q_luck_5 : decode prog_1_method_27_code 5 = .ok (.invokevirtual 109, 3) := dd_Q_luck_0.2.2.2.1
theorem d_Q_luck_8 : decode prog_1_method_27_code 8 = .ok (.ifCond .eq 12, 3) := dd_Q_luck_0.2.2.2.2.1
theorem d_Q_luck_11 : decode prog_1_method_27_code 11 = .ok (.iload_n 2, 1) := dd_Q_luck_0.2.2.2.2.2.1
theorem d_Q_luck_12 : decode prog_1_method_27_code 12 = .ok (.iconst 0, 1) := dd_Q_luck_0.2.2.2.2.2.2.1
theorem d_Q_luck_13 : decode prog_1_method_27_code 13 = .ok (.iconst 1, 1) := dd_Q_luck_0.2.2.2.2.2.2.2.1
theorem d_Q_luck_14 : decode prog_1_method_27_code 14 = .ok (.invokestatic 62, 3) := dd_Q_luck_0.2.2.2.2.2.2.2.2.1
theorem d_Q_luck_17 : decode prog_1_method_27_code 17 = .ok (.ifCond .ne 7, 3) := dd_Q_luck_0.2.2.2.2.2.2.2.2.2.1
theorem d_Q_luck_20 : decode prog_1_method_27_code 20 = .ok (.ldc2_w 223, 3) := dd_Q_luck_0.2.2.2.2.2.2.2.2.2.2.1
theorem d_Q_luck_23 : decode prog_1_method_27_code 23 = .ok (.lreturn, 1) := dd_Q_luck_0.2.2.2.2.2.2.2.2.2.2.2.1
theorem d_Q_luck_24 : decode prog_1_method_27_code 24 = .ok (.aload_n 0, 1) := dd_Q_luck_0.2.2.2.2.2.2.2.2.2.2.2.2.1
theorem d_Q_luck_25 : decode prog_1_method_27_code 25 = .ok (.getfield 57, 3) := dd_Q_luck_0.2.2.2.2.2.2.2.2.2.2.2.2.2.1
theorem d_Q_luck_28 : decode prog_1_method_27_code 28 = .ok (.aload_n 0, 1) := dd_Q_luck_0.2.2.2.2.2.2.2.2.2.2.2.2.2.2.1
theorem d_Q_luck_29 : decode prog_1_method_27_code 29 = .ok (.getfield 19, 3) := dd_Q_luck_0.2.2.2.2.2.2.2.2.2.2.2.2.2.2.2.1
theorem d_Q_luck_32 : decode prog_1_method_27_code 32 = .ok (.iload_n 1, 1) := dd_Q_luck_0.2.2.2.2.2.2.2.2.2.2.2.2.2.2.2.2.1
theorem d_Q_luck_33 : decode prog_1_method_27_code 33 = .ok (.invokevirtual 225, 3) := dd_Q_luck_0.2.2.2.2.2.2.2.2.2.2.2.2.2.2.2.2.2.1
theorem d_Q_luck_36 : decode prog_1_method_27_code 36 = .ok (.iload_n 2, 1) := dd_Q_luck_0.2.2.2.2.2.2.2.2.2.2.2.2.2.2.2.2.2.2.1
theorem d_Q_luck_37 : decode prog_1_method_27_code 37 = .ok (.ifCond .ne 13, 3) := dd_Q_luck_0.2.2.2.2.2.2.2.2.2.2.2.2.2.2.2.2.2.2.2.1
theorem d_Q_luck_40 : decode prog_1_method_27_code 40 = .ok (.aload_n 0, 1) := dd_Q_luck_0.2.2.2.2.2.2.2.2.2.2.2.2.2.2.2.2.2.2.2.2.1
theorem d_Q_luck_41 : decode prog_1_method_27_code 41 = .ok (.getfield 57, 3) := dd_Q_luck_0.2.2.2.2.2.2.2.2.2.2.2.2.2.2.2.2.2.2.2.2.2.1
theorem d_Q_luck_44 : decode prog_1_method_27_code 44 = .ok (.getfield 229, 3) := dd_Q_luck_0.2.2.2.2.2.2.2.2.2.2.2.2.2.2.2.2.2.2.2.2.2.2.1
theorem d_Q_luck_47 : decode prog_1_method_27_code 47 = .ok (.goto 10, 3) := dd_Q_luck_0.2.2.2.2.2.2.2.2.2.2.2.2.2.2.2.2.2.2.2.2.2.2.2
set_option maxRecDepth 100000 in
theorem dd_Q_luck_50 : (decode prog_1_method_27_code 50 = .ok (.aload_n 0, 1)) ∧ (decode prog_1_method_27_code 51 = .ok (.getfield 57, 3)) ∧ (decode prog_1_method_27_code 54 = .ok (.getfield 233, 3)) ∧ (decode prog_1_method_27_code 57 = .ok (.lreturn, 1)) := by
  have h : List.drop 50 prog_1_method_27_code.data.toList = 0x2a :: _ := rfl
  refine ⟨zq_k_n 42 h rfl (zq_o_42 _), ?_⟩
  replace h := zq_nx1 (q := 51) h rfl
  refine ⟨zq_k_u2 180 (fun z => .getfield z) 57 h rfl (zq_o_180 _) (by decide +kernel), ?_⟩
  replace h := zq_nx3 (q := 54) h rfl
  refine ⟨zq_k_u2 180 (fun z => .getfield z) 233 h rfl (zq_o_180 _) (by decide +kernel), ?_⟩
  replace h := zq_nx3 (q := 57) h rfl
  exact zq_k_n 173 h rfl (zq_o_173 _)
theorem d_Q_luck_50 : decode prog_1_method_27_code 50 = .ok (.aload_n 0, 1) := dd_Q_luck_50.1
theorem d_Q_luck_51 : decode prog_1_method_27_code 51 = .ok (.getfield 57, 3) := dd_Q_luck_50.2.1
theorem d_Q_luck_54 : decode prog_1_method_27_code 54 = .ok (.getfield 233, 3) := dd_Q_luck_50.2.2.1
theorem d_Q_luck_57 : decode prog_1_method_27_code 57 = .ok (.lreturn, 1) := dd_Q_luck_50.2.2.2
def f_Q_luck_20   (h : mH) : Option (Int64 × mH) :=
  some (((-1) : Int64), h)
set_option maxRecDepth 20000 in
theorem t_Q_luck_20 {sc : Nat × (Nat → Int32)}   (h : mH) (r : Int64) (h' : mH) (hf : f_Q_luck_20   h = some (r, h')) : G sc y_Q_luck prog_1_method_27_code 3 (some .long) 4 92 20 [] [] h (some (.long r)) h' := by
  unfold f_Q_luck_20 at hf
  refine g_ldc2 (pc := 20) ((-1) : Int64) d_Q_luck_20 wd_749 ?_
  obtain ⟨rfl, rfl⟩ := ret2 hf
  exact g_lret (pc := 23) rfl d_Q_luck_23
def f_Q_luck_0  (a0 : Nat) (a1 : Int32) (a2 : Int32) (h : mH) : Option (Int64 × mH) :=
  bd1 (gR h a0 0 1) fun x1 =>
  bd1 (kC h x1 4) fun _ =>
  bd2 (f_Realm_hasLaw x1 a1 h) fun x7 h5 =>
  if x7 = 0 then
    f_Q_luck_20  h5
  else
    bd2 (f_Q_isWithin a2 (0 : Int32) (1 : Int32) h5) fun x10 h8 =>
    if x10 = 0 then
      f_Q_luck_20  h8
    else
      bd1 (gR h8 a0 0 8) fun x11 =>
      bd1 (gR h8 a0 0 1) fun x13 =>
      bd1 (kC h8 x11 1) fun _ =>
      bd1 (f_Odds_weigh x11 x13 a1 h8) fun h17 =>
      if a2 = 0 then
        bd1 (gR h17 a0 0 8) fun x23 =>
        bd1 (gL h17 x23 1 0) fun x25 =>
        some (x25, h17)
      else
        bd1 (gR h17 a0 0 8) fun x19 =>
        bd1 (gL h17 x19 1 1) fun x21 =>
        some (x21, h17)
set_option maxRecDepth 20000 in
theorem t_Q_luck_0 {sc : Nat × (Nat → Int32)}  (a0 : Nat) (a1 : Int32) (a2 : Int32) (h : mH) (r : Int64) (h' : mH) (hf : f_Q_luck_0  a0 a1 a2 h = some (r, h')) : G sc y_Q_luck prog_1_method_27_code 3 (some .long) 4 92 0 [(0, .ref a0), (1, .int a1), (2, .int a2)] [] h (some (.long r)) h' := by
  unfold f_Q_luck_0 at hf
  refine g_aload_n (pc := 0) 0 d_Q_luck_0 rfl rfl ?_
  obtain ⟨x1, e2, hf⟩ := bd1_e hf
  refine g_get (pc := 1) (ci := 0) (kk := 1) d_Q_luck_1 rfl in_Q (by decide) wd_297 (gR_spec e2) ?_
  refine g_iload_n (pc := 4) 1 d_Q_luck_4 rfl rfl ?_
  obtain ⟨u4, e3, hf⟩ := bd1_e hf
  obtain ⟨x7, h5, e6, hf⟩ := bd2_e hf
  refine g_callV (pc := 5) (ci := 4) [.int a1] (site_of si_Realm_hasLaw (by decide) (by decide)) wd_519 wd_488 wd_489 d_Q_luck_5 rfl e3 (Nat.le_of_ble_eq_true rfl) (fun z => absurd z (by decide)) (fun z => absurd z (by decide)) (fun z => absurd z (by decide)) (c_Realm_hasLaw e6) rfl ?_
  refine g_st [.int x7] rfl ?_
  refine g_ifeq (pc := 8) 20 d_Q_luck_8 (by decide) (fun c29 => ?_) (fun c29 => ?_)
  · replace hf := (if_pos c29).symm.trans hf
    refine g_lv [] rfl ?_
    exact t_Q_luck_20  _ _ _  hf
  · replace hf := (if_neg c29).symm.trans hf
    refine g_iload_n (pc := 11) 2 d_Q_luck_11 rfl rfl ?_
    refine g_iconst (pc := 12) (0 : Int32) d_Q_luck_12 (by decide) ?_
    refine g_iconst (pc := 13) (1 : Int32) d_Q_luck_13 (by decide) ?_
    obtain ⟨x10, h8, e9, hf⟩ := bd2_e hf
    refine g_callS (pc := 14) [.int a2, .int (0 : Int32), .int (1 : Int32)] (site_of si_Q_isWithin (by decide) (by decide)) wd_331 wd_332 d_Q_luck_14 (Nat.le_of_ble_eq_true rfl) (fun z => absurd z (by decide)) (fun z => absurd z (by decide)) (fun z => absurd z (by decide)) (c_Q_isWithin e9) rfl ?_
    refine g_st [.int x10] rfl ?_
    refine g_ifne (pc := 17) 24 d_Q_luck_17 (by decide) (fun c28 => ?_) (fun c28 => ?_)
    · replace hf := (if_neg c28).symm.trans hf
      refine g_aload_n (pc := 24) 0 d_Q_luck_24 rfl rfl ?_
      obtain ⟨x11, e12, hf⟩ := bd1_e hf
      refine g_get (pc := 25) (ci := 0) (kk := 8) d_Q_luck_25 rfl in_Q (by decide) wd_304 (gR_spec e12) ?_
      refine g_aload_n (pc := 28) 0 d_Q_luck_28 rfl rfl ?_
      obtain ⟨x13, e14, hf⟩ := bd1_e hf
      refine g_get (pc := 29) (ci := 0) (kk := 1) d_Q_luck_29 rfl in_Q (by decide) wd_297 (gR_spec e14) ?_
      refine g_iload_n (pc := 32) 1 d_Q_luck_32 rfl rfl ?_
      obtain ⟨u16, e15, hf⟩ := bd1_e hf
      obtain ⟨h17, e18, hf⟩ := bd1_e hf
      refine g_callV (pc := 33) (ci := 1) [.ref x13, .int a1] (site_of si_Odds_weigh (by decide) (by decide)) wd_750 wd_751 wd_752 d_Q_luck_33 rfl e15 (Nat.le_of_ble_eq_true rfl) (fun z => absurd z (by decide)) (fun z => absurd z (by decide)) (fun z => absurd z (by decide)) (c_Odds_weigh e18) rfl ?_
      refine g_st [] rfl ?_
      refine g_iload_n (pc := 36) 2 d_Q_luck_36 rfl rfl ?_
      refine g_ifne (pc := 37) 50 d_Q_luck_37 (by decide) (fun c27 => ?_) (fun c27 => ?_)
      · replace hf := (if_neg c27).symm.trans hf
        refine g_aload_n (pc := 50) 0 d_Q_luck_50 rfl rfl ?_
        obtain ⟨x19, e20, hf⟩ := bd1_e hf
        refine g_get (pc := 51) (ci := 0) (kk := 8) d_Q_luck_51 rfl in_Q (by decide) wd_304 (gR_spec e20) ?_
        obtain ⟨x21, e22, hf⟩ := bd1_e hf
        refine g_get (pc := 54) (ci := 1) (kk := 1) d_Q_luck_54 rfl in_Odds (by decide) wd_271 (gL_spec e22) ?_
        obtain ⟨rfl, rfl⟩ := ret2 hf
        exact g_lret (pc := 57) rfl d_Q_luck_57
      · replace hf := (if_pos c27).symm.trans hf
        refine g_aload_n (pc := 40) 0 d_Q_luck_40 rfl rfl ?_
        obtain ⟨x23, e24, hf⟩ := bd1_e hf
        refine g_get (pc := 41) (ci := 0) (kk := 8) d_Q_luck_41 rfl in_Q (by decide) wd_304 (gR_spec e24) ?_
        obtain ⟨x25, e26, hf⟩ := bd1_e hf
        refine g_get (pc := 44) (ci := 1) (kk := 0) d_Q_luck_44 rfl in_Odds (by decide) wd_269 (gL_spec e26) ?_
        refine g_goto (pc := 47) 57 d_Q_luck_47 (by decide) ?_
        obtain ⟨rfl, rfl⟩ := ret2 hf
        exact g_lret (pc := 57) rfl d_Q_luck_57
    · replace hf := (if_pos c28).symm.trans hf
      refine g_lv [] rfl ?_
      exact t_Q_luck_20  _ _ _  hf
def f_Q_luck (a0 : Nat) (a1 : Int32) (a2 : Int32) (h : mH) : Option (Int64 × mH) := f_Q_luck_0 a0 a1 a2 h
theorem c_Q_luck {sc : Nat × (Nat → Int32)} {a0 : Nat} {a1 : Int32} {a2 : Int32} {h : mH} {r : Int64} {h' : mH} (hf : f_Q_luck a0 a1 a2 h = some (r, h')) : MM sc y_Q_luck prog_1_method_27_code 3 (some .long) 4 92 [.ref a0, .int a1, .int a2] h (some (.long r)) h' :=
  mm_of_G (by decide) (Nat.le_of_ble_eq_true rfl) (t_Q_luck_0 _ _ _ _ _ _ hf)
/-! Sightings append (III)Z -/
set_option maxRecDepth 100000 in
theorem dd_Sightings_append_0 : (decode prog_7_method_2_code 0 = .ok (.aload_n 0, 1)) ∧ (decode prog_7_method_2_code 1 = .ok (.getfield 21, 3)) ∧ (decode prog_7_method_2_code 4 = .ok (.bipush 8, 2)) ∧ (decode prog_7_method_2_code 6 = .ok (.if_icmp .lt 5, 3)) ∧ (decode prog_7_method_2_code 9 = .ok (.iconst 0, 1)) ∧ (decode prog_7_method_2_code 10 = .ok (.ireturn, 1)) ∧ (decode prog_7_method_2_code 11 = .ok (.aload_n 0, 1)) ∧ (decode prog_7_method_2_code 12 = .ok (.getfield 9, 3)) ∧ (decode prog_7_method_2_code 15 = .ok (.aload_n 0, 1)) ∧ (decode prog_7_method_2_code 16 = .ok (.getfield 21, 3)) ∧ (decode prog_7_method_2_code 19 = .ok (.iload_n 1, 1)) ∧ (decode prog_7_method_2_code 20 = .ok (.iastore, 1)) ∧ (decode prog_7_method_2_code 21 = .ok (.aload_n 0, 1)) ∧ (decode prog_7_method_2_code 22 = .ok (.getfield 15, 3)) ∧ (decode prog_7_method_2_code 25 = .ok (.aload_n 0, 1)) ∧ (decode prog_7_method_2_code 26 = .ok (.getfield 21, 3)) ∧ (decode prog_7_method_2_code 29 = .ok (.iload_n 2, 1)) ∧ (decode prog_7_method_2_code 30 = .ok (.iastore, 1)) ∧ (decode prog_7_method_2_code 31 = .ok (.aload_n 0, 1)) ∧ (decode prog_7_method_2_code 32 = .ok (.getfield 18, 3)) ∧ (decode prog_7_method_2_code 35 = .ok (.aload_n 0, 1)) ∧ (decode prog_7_method_2_code 36 = .ok (.getfield 21, 3)) ∧ (decode prog_7_method_2_code 39 = .ok (.iload_n 3, 1)) ∧ (decode prog_7_method_2_code 40 = .ok (.iastore, 1)) := by
  have h : List.drop 0 prog_7_method_2_code.data.toList = 0x2a :: _ := rfl
  refine ⟨zq_k_n 42 h rfl (zq_o_42 _), ?_⟩
  replace h := zq_nx1 (q := 1) h rfl
  refine ⟨zq_k_u2 180 (fun z => .getfield z) 21 h rfl (zq_o_180 _) (by decide +kernel), ?_⟩
  replace h := zq_nx3 (q := 4) h rfl
  refine ⟨zq_k_s1 16 (fun z => .bipush z) 8 h rfl (zq_o_16 _) (by decide +kernel), ?_⟩
  replace h := zq_nx2 (q := 6) h rfl
  refine ⟨zq_k_s2 161 (fun z => .if_icmp .lt z) 5 h rfl (zq_o_161 _) (by decide +kernel), ?_⟩
  replace h := zq_nx3 (q := 9) h rfl
  refine ⟨zq_k_n 3 h rfl (zq_o_3 _), ?_⟩
  replace h := zq_nx1 (q := 10) h rfl
  refine ⟨zq_k_n 172 h rfl (zq_o_172 _), ?_⟩
  replace h := zq_nx1 (q := 11) h rfl
  refine ⟨zq_k_n 42 h rfl (zq_o_42 _), ?_⟩
  replace h := zq_nx1 (q := 12) h rfl
  refine ⟨zq_k_u2 180 (fun z => .getfield z) 9 h rfl (zq_o_180 _) (by decide +kernel), ?_⟩
  replace h := zq_nx3 (q := 15) h rfl
  refine ⟨zq_k_n 42 h rfl (zq_o_42 _), ?_⟩
  replace h := zq_nx1 (q := 16) h rfl
  refine ⟨zq_k_u2 180 (fun z => .getfield z) 21 h rfl (zq_o_180 _) (by decide +kernel), ?_⟩
  replace h := zq_nx3 (q := 19) h rfl
  refine ⟨zq_k_n 27 h rfl (zq_o_27 _), ?_⟩
  replace h := zq_nx1 (q := 20) h rfl
  refine ⟨zq_k_n 79 h rfl (zq_o_79 _), ?_⟩
  replace h := zq_nx1 (q := 21) h rfl
  refine ⟨zq_k_n 42 h rfl (zq_o_42 _), ?_⟩
  replace h := zq_nx1 (q := 22) h rfl
  refine ⟨zq_k_u2 180 (fun z => .getfield z) 15 h rfl (zq_o_180 _) (by decide +kernel), ?_⟩
  replace h := zq_nx3 (q := 25) h rfl
  refine ⟨zq_k_n 42 h rfl (zq_o_42 _), ?_⟩
  replace h := zq_nx1 (q := 26) h rfl
  refine ⟨zq_k_u2 180 (fun z => .getfield z) 21 h rfl (zq_o_180 _) (by decide +kernel), ?_⟩
  replace h := zq_nx3 (q := 29) h rfl
  refine ⟨zq_k_n 28 h rfl (zq_o_28 _), ?_⟩
  replace h := zq_nx1 (q := 30) h rfl
  refine ⟨zq_k_n 79 h rfl (zq_o_79 _), ?_⟩
  replace h := zq_nx1 (q := 31) h rfl
  refine ⟨zq_k_n 42 h rfl (zq_o_42 _), ?_⟩
  replace h := zq_nx1 (q := 32) h rfl
  refine ⟨zq_k_u2 180 (fun z => .getfield z) 18 h rfl (zq_o_180 _) (by decide +kernel), ?_⟩
  replace h := zq_nx3 (q := 35) h rfl
  refine ⟨zq_k_n 42 h rfl (zq_o_42 _), ?_⟩
  replace h := zq_nx1 (q := 36) h rfl
  refine ⟨zq_k_u2 180 (fun z => .getfield z) 21 h rfl (zq_o_180 _) (by decide +kernel), ?_⟩
  replace h := zq_nx3 (q := 39) h rfl
  refine ⟨zq_k_n 29 h rfl (zq_o_29 _), ?_⟩
  replace h := zq_nx1 (q := 40) h rfl
  exact zq_k_n 79 h rfl (zq_o_79 _)
theorem d_Sightings_append_0 : decode prog_7_method_2_code 0 = .ok (.aload_n 0, 1) := dd_Sightings_append_0.1
theorem d_Sightings_append_1 : decode prog_7_method_2_code 1 = .ok (.getfield 21, 3) := dd_Sightings_append_0.2.1
theorem d_Sightings_append_4 : decode prog_7_method_2_code 4 = .ok (.bipush 8, 2) := dd_Sightings_append_0.2.2.1
theorem d_Sightings_append_6 : decode prog_7_method_2_code 6 = .ok (.if_icmp .lt 5, 3) := dd_Sightings_append_0.2.2.2.1
theorem d_Sightings_append_9 : decode prog_7_method_2_code 9 = .ok (.iconst 0, 1) := dd_Sightings_append_0.2.2.2.2.1
theorem d_Sightings_append_10 : decode prog_7_method_2_code 10 = .ok (.ireturn, 1) := dd_Sightings_append_0.2.2.2.2.2.1
theorem d_Sightings_append_11 : decode prog_7_method_2_code 11 = .ok (.aload_n 0, 1) := dd_Sightings_append_0.2.2.2.2.2.2.1
theorem d_Sightings_append_12 : decode prog_7_method_2_code 12 = .ok (.getfield 9, 3) := dd_Sightings_append_0.2.2.2.2.2.2.2.1
theorem d_Sightings_append_15 : decode prog_7_method_2_code 15 = .ok (.aload_n 0, 1) := dd_Sightings_append_0.2.2.2.2.2.2.2.2.1
theorem d_Sightings_append_16 : decode prog_7_method_2_code 16 = .ok (.getfield 21, 3) := dd_Sightings_append_0.2.2.2.2.2.2.2.2.2.1
theorem d_Sightings_append_19 : decode prog_7_method_2_code 19 = .ok (.iload_n 1, 1) := dd_Sightings_append_0.2.2.2.2.2.2.2.2.2.2.1
theorem d_Sightings_append_20 : decode prog_7_method_2_code 20 = .ok (.iastore, 1) := dd_Sightings_append_0.2.2.2.2.2.2.2.2.2.2.2.1
theorem d_Sightings_append_21 : decode prog_7_method_2_code 21 = .ok (.aload_n 0, 1) := dd_Sightings_append_0.2.2.2.2.2.2.2.2.2.2.2.2.1
theorem d_Sightings_append_22 : decode prog_7_method_2_code 22 = .ok (.getfield 15, 3) := dd_Sightings_append_0.2.2.2.2.2.2.2.2.2.2.2.2.2.1
theorem d_Sightings_append_25 : decode prog_7_method_2_code 25 = .ok (.aload_n 0, 1) := dd_Sightings_append_0.2.2.2.2.2.2.2.2.2.2.2.2.2.2.1
theorem d_Sightings_append_26 : decode prog_7_method_2_code 26 = .ok (.getfield 21, 3) := dd_Sightings_append_0.2.2.2.2.2.2.2.2.2.2.2.2.2.2.2.1
theorem d_Sightings_append_29 : decode prog_7_method_2_code 29 = .ok (.iload_n 2, 1) := dd_Sightings_append_0.2.2.2.2.2.2.2.2.2.2.2.2.2.2.2.2.1
theorem d_Sightings_append_30 : decode prog_7_method_2_code 30 = .ok (.iastore, 1) := dd_Sightings_append_0.2.2.2.2.2.2.2.2.2.2.2.2.2.2.2.2.2.1
theorem d_Sightings_append_31 : decode prog_7_method_2_code 31 = .ok (.aload_n 0, 1) := dd_Sightings_append_0.2.2.2.2.2.2.2.2.2.2.2.2.2.2.2.2.2.2.1
theorem d_Sightings_append_32 : decode prog_7_method_2_code 32 = .ok (.getfield 18, 3) := dd_Sightings_append_0.2.2.2.2.2.2.2.2.2.2.2.2.2.2.2.2.2.2.2.1
theorem d_Sightings_append_35 : decode prog_7_method_2_code 35 = .ok (.aload_n 0, 1) := dd_Sightings_append_0.2.2.2.2.2.2.2.2.2.2.2.2.2.2.2.2.2.2.2.2.1
theorem d_Sightings_append_36 : decode prog_7_method_2_code 36 = .ok (.getfield 21, 3) := dd_Sightings_append_0.2.2.2.2.2.2.2.2.2.2.2.2.2.2.2.2.2.2.2.2.2.1
theorem d_Sightings_append_39 : decode prog_7_method_2_code 39 = .ok (.iload_n 3, 1) := dd_Sightings_append_0.2.2.2.2.2.2.2.2.2.2.2.2.2.2.2.2.2.2.2.2.2.2.1
theorem d_Sightings_append_40 : decode prog_7_method_2_code 40 = .ok (.iastore, 1) := dd_Sightings_append_0.2.2.2.2.2.2.2.2.2.2.2.2.2.2.2.2.2.2.2.2.2.2.2
set_option maxRecDepth 100000 in
theorem dd_Sightings_append_41 : (decode prog_7_method_2_code 41 = .ok (.aload_n 0, 1)) ∧ (decode prog_7_method_2_code 42 = .ok (.dup, 1)) ∧ (decode prog_7_method_2_code 43 = .ok (.getfield 21, 3)) ∧ (decode prog_7_method_2_code 46 = .ok (.iconst 1, 1)) ∧ (decode prog_7_method_2_code 47 = .ok (.iadd, 1)) ∧ (decode prog_7_method_2_code 48 = .ok (.putfield 21, 3)) ∧ (decode prog_7_method_2_code 51 = .ok (.iconst 1, 1)) ∧ (decode prog_7_method_2_code 52 = .ok (.ireturn, 1)) := by
  have h : List.drop 41 prog_7_method_2_code.data.toList = 0x2a :: _ := rfl
  refine ⟨zq_k_n 42 h rfl (zq_o_42 _), ?_⟩
  replace h := zq_nx1 (q := 42) h rfl
  refine ⟨zq_k_n 89 h rfl (zq_o_89 _), ?_⟩
  replace h := zq_nx1 (q := 43) h rfl
  refine ⟨zq_k_u2 180 (fun z => .getfield z) 21 h rfl (zq_o_180 _) (by decide +kernel), ?_⟩
  replace h := zq_nx3 (q := 46) h rfl
  refine ⟨zq_k_n 4 h rfl (zq_o_4 _), ?_⟩
  replace h := zq_nx1 (q := 47) h rfl
  refine ⟨zq_k_n 96 h rfl (zq_o_96 _), ?_⟩
  replace h := zq_nx1 (q := 48) h rfl
  refine ⟨zq_k_u2 181 (fun z => .putfield z) 21 h rfl (zq_o_181 _) (by decide +kernel), ?_⟩
  replace h := zq_nx3 (q := 51) h rfl
  refine ⟨zq_k_n 4 h rfl (zq_o_4 _), ?_⟩
  replace h := zq_nx1 (q := 52) h rfl
  exact zq_k_n 172 h rfl (zq_o_172 _)
theorem d_Sightings_append_41 : decode prog_7_method_2_code 41 = .ok (.aload_n 0, 1) := dd_Sightings_append_41.1
theorem d_Sightings_append_42 : decode prog_7_method_2_code 42 = .ok (.dup, 1) := dd_Sightings_append_41.2.1
theorem d_Sightings_append_43 : decode prog_7_method_2_code 43 = .ok (.getfield 21, 3) := dd_Sightings_append_41.2.2.1
theorem d_Sightings_append_46 : decode prog_7_method_2_code 46 = .ok (.iconst 1, 1) := dd_Sightings_append_41.2.2.2.1
theorem d_Sightings_append_47 : decode prog_7_method_2_code 47 = .ok (.iadd, 1) := dd_Sightings_append_41.2.2.2.2.1
theorem d_Sightings_append_48 : decode prog_7_method_2_code 48 = .ok (.putfield 21, 3) := dd_Sightings_append_41.2.2.2.2.2.1
theorem d_Sightings_append_51 : decode prog_7_method_2_code 51 = .ok (.iconst 1, 1) := dd_Sightings_append_41.2.2.2.2.2.2.1
theorem d_Sightings_append_52 : decode prog_7_method_2_code 52 = .ok (.ireturn, 1) := dd_Sightings_append_41.2.2.2.2.2.2.2
def f_Sightings_append_0  (a0 : Nat) (a1 : Int32) (a2 : Int32) (a3 : Int32) (h : mH) : Option (Int32 × mH) :=
  bd1 (gI h a0 6 0) fun x1 =>
  if x1 < (8 : Int32) then
    bd1 (gR h a0 6 1) fun x3 =>
    bd1 (gI h a0 6 0) fun x5 =>
    bd1 (sI h 0 x3 x5 a1) fun h7 =>
    bd1 (gR h7 a0 6 2) fun x9 =>
    bd1 (gI h7 a0 6 0) fun x11 =>
    bd1 (sI h7 0 x9 x11 a2) fun h13 =>
    bd1 (gR h13 a0 6 3) fun x15 =>
    bd1 (gI h13 a0 6 0) fun x17 =>
    bd1 (sI h13 0 x15 x17 a3) fun h19 =>
    bd1 (gI h19 a0 6 0) fun x21 =>
    bd1 (pV h19 a0 6 0 (.int (x21 + (1 : Int32)))) fun h23 =>
    some ((1 : Int32), h23)
  else
    some ((0 : Int32), h)
set_option maxRecDepth 20000 in
theorem t_Sightings_append_0 {sc : Nat × (Nat → Int32)}  (a0 : Nat) (a1 : Int32) (a2 : Int32) (a3 : Int32) (h : mH) (r : Int32) (h' : mH) (hf : f_Sightings_append_0  a0 a1 a2 a3 h = some (r, h')) : G sc y_Sightings_append prog_7_method_2_code 4 (some .boolean) 0 0 0 [(0, .ref a0), (1, .int a1), (2, .int a2), (3, .int a3)] [] h (some (.int r)) h' := by
  unfold f_Sightings_append_0 at hf
  refine g_aload_n (pc := 0) 0 d_Sightings_append_0 rfl rfl ?_
  obtain ⟨x1, e2, hf⟩ := bd1_e hf
  refine g_get (pc := 1) (ci := 6) (kk := 0) d_Sightings_append_1 rfl in_Sightings (by decide) wd_77 (gI_spec e2) ?_
  refine g_bipush (pc := 4) (8 : Int32) d_Sightings_append_4 (by decide) ?_
  refine g_icmplt (pc := 6) 11 d_Sightings_append_6 (by decide) (fun c25 => ?_) (fun c25 => ?_)
  · replace hf := (if_pos c25).symm.trans hf
    refine g_aload_n (pc := 11) 0 d_Sightings_append_11 rfl rfl ?_
    obtain ⟨x3, e4, hf⟩ := bd1_e hf
    refine g_get (pc := 12) (ci := 6) (kk := 1) d_Sightings_append_12 rfl in_Sightings (by decide) wd_80 (gR_spec e4) ?_
    refine g_aload_n (pc := 15) 0 d_Sightings_append_15 rfl rfl ?_
    obtain ⟨x5, e6, hf⟩ := bd1_e hf
    refine g_get (pc := 16) (ci := 6) (kk := 0) d_Sightings_append_16 rfl in_Sightings (by decide) wd_77 (gI_spec e6) ?_
    refine g_iload_n (pc := 19) 1 d_Sightings_append_19 rfl rfl ?_
    obtain ⟨h7, e8, hf⟩ := bd1_e hf
    refine g_iast (pc := 20) d_Sightings_append_20 e8 ?_
    refine g_aload_n (pc := 21) 0 d_Sightings_append_21 rfl rfl ?_
    obtain ⟨x9, e10, hf⟩ := bd1_e hf
    refine g_get (pc := 22) (ci := 6) (kk := 2) d_Sightings_append_22 rfl in_Sightings (by decide) wd_81 (gR_spec e10) ?_
    refine g_aload_n (pc := 25) 0 d_Sightings_append_25 rfl rfl ?_
    obtain ⟨x11, e12, hf⟩ := bd1_e hf
    refine g_get (pc := 26) (ci := 6) (kk := 0) d_Sightings_append_26 rfl in_Sightings (by decide) wd_77 (gI_spec e12) ?_
    refine g_iload_n (pc := 29) 2 d_Sightings_append_29 rfl rfl ?_
    obtain ⟨h13, e14, hf⟩ := bd1_e hf
    refine g_iast (pc := 30) d_Sightings_append_30 e14 ?_
    refine g_aload_n (pc := 31) 0 d_Sightings_append_31 rfl rfl ?_
    obtain ⟨x15, e16, hf⟩ := bd1_e hf
    refine g_get (pc := 32) (ci := 6) (kk := 3) d_Sightings_append_32 rfl in_Sightings (by decide) wd_82 (gR_spec e16) ?_
    refine g_aload_n (pc := 35) 0 d_Sightings_append_35 rfl rfl ?_
    obtain ⟨x17, e18, hf⟩ := bd1_e hf
    refine g_get (pc := 36) (ci := 6) (kk := 0) d_Sightings_append_36 rfl in_Sightings (by decide) wd_77 (gI_spec e18) ?_
    refine g_iload_n (pc := 39) 3 d_Sightings_append_39 rfl rfl ?_
    obtain ⟨h19, e20, hf⟩ := bd1_e hf
    refine g_iast (pc := 40) d_Sightings_append_40 e20 ?_
    refine g_aload_n (pc := 41) 0 d_Sightings_append_41 rfl rfl ?_
    refine g_dup (pc := 42) d_Sightings_append_42 rfl ?_
    obtain ⟨x21, e22, hf⟩ := bd1_e hf
    refine g_get (pc := 43) (ci := 6) (kk := 0) d_Sightings_append_43 rfl in_Sightings (by decide) wd_77 (gI_spec e22) ?_
    refine g_iconst (pc := 46) (1 : Int32) d_Sightings_append_46 (by decide) ?_
    refine g_iadd (pc := 47) d_Sightings_append_47 ?_
    obtain ⟨h23, e24, hf⟩ := bd1_e hf
    refine g_put (pc := 48) (ci := 6) (kk := 0) ty_Sightings tyok_Sightings nm_Sightings d_Sightings_append_48 rfl in_Sightings (by decide) wd_77 rfl (fun _ => rfl) (fun _ => rfl) (fun _ z => by cases z) e24 ?_
    refine g_iconst (pc := 51) (1 : Int32) d_Sightings_append_51 (by decide) ?_
    obtain ⟨rfl, rfl⟩ := ret2 hf
    exact g_zret (pc := 52) rfl rfl d_Sightings_append_52
  · replace hf := (if_neg c25).symm.trans hf
    refine g_iconst (pc := 9) (0 : Int32) d_Sightings_append_9 (by decide) ?_
    obtain ⟨rfl, rfl⟩ := ret2 hf
    exact g_zret (pc := 10) rfl rfl d_Sightings_append_10
def f_Sightings_append (a0 : Nat) (a1 : Int32) (a2 : Int32) (a3 : Int32) (h : mH) : Option (Int32 × mH) := f_Sightings_append_0 a0 a1 a2 a3 h
theorem c_Sightings_append {sc : Nat × (Nat → Int32)} {a0 : Nat} {a1 : Int32} {a2 : Int32} {a3 : Int32} {h : mH} {r : Int32} {h' : mH} (hf : f_Sightings_append a0 a1 a2 a3 h = some (r, h')) : MM sc y_Sightings_append prog_7_method_2_code 4 (some .boolean) 0 0 [.ref a0, .int a1, .int a2, .int a3] h (some (.int r)) h' :=
  mm_of_G (by decide) (Nat.le_of_ble_eq_true rfl) (t_Sightings_append_0 _ _ _ _ _ _ _ hf)
/-! Q see (III)I -/
set_option maxRecDepth 100000 in
theorem dd_Q_see_0 : (decode prog_1_method_28_code 0 = .ok (.iload_n 1, 1)) ∧ (decode prog_1_method_28_code 1 = .ok (.ifCond .ne 14, 3)) ∧ (decode prog_1_method_28_code 4 = .ok (.aload_n 0, 1)) ∧ (decode prog_1_method_28_code 5 = .ok (.getfield 19, 3)) ∧ (decode prog_1_method_28_code 8 = .ok (.iload_n 2, 1)) ∧ (decode prog_1_method_28_code 9 = .ok (.invokevirtual 135, 3)) ∧ (decode prog_1_method_28_code 12 = .ok (.ifCond .ne 19, 3)) ∧ (decode prog_1_method_28_code 15 = .ok (.iload_n 1, 1)) ∧ (decode prog_1_method_28_code 16 = .ok (.iconst 1, 1)) ∧ (decode prog_1_method_28_code 17 = .ok (.if_icmp .ne 18, 3)) ∧ (decode prog_1_method_28_code 20 = .ok (.aload_n 0, 1)) ∧ (decode prog_1_method_28_code 21 = .ok (.getfield 19, 3)) ∧ (decode prog_1_method_28_code 24 = .ok (.iload_n 2, 1)) ∧ (decode prog_1_method_28_code 25 = .ok (.invokevirtual 109, 3)) ∧ (decode prog_1_method_28_code 28 = .ok (.ifCond .eq 7, 3)) ∧ (decode prog_1_method_28_code 31 = .ok (.iconst 1, 1)) ∧ (decode prog_1_method_28_code 32 = .ok (.goto 4, 3)) ∧ (decode prog_1_method_28_code 35 = .ok (.iconst 0, 1)) ∧ (decode prog_1_method_28_code 36 = .ok (.istore 4, 2)) ∧ (decode prog_1_method_28_code 38 = .ok (.iload 4, 2)) ∧ (decode prog_1_method_28_code 40 = .ok (.ifCond .eq 13, 3)) ∧ (decode prog_1_method_28_code 43 = .ok (.iload_n 3, 1)) ∧ (decode prog_1_method_28_code 44 = .ok (.iconst 0, 1)) ∧ (decode prog_1_method_28_code 45 = .ok (.bipush 20, 2)) := by
  have h : List.drop 0 prog_1_method_28_code.data.toList = 0x1b :: _ := rfl
  refine ⟨zq_k_n 27 h rfl (zq_o_27 _), ?_⟩
  replace h := zq_nx1 (q := 1) h rfl
  refine ⟨zq_k_s2 154 (fun z => .ifCond .ne z) 14 h rfl (zq_o_154 _) (by decide +kernel), ?_⟩
  replace h := zq_nx3 (q := 4) h rfl
  refine ⟨zq_k_n 42 h rfl (zq_o_42 _), ?_⟩
  replace h := zq_nx1 (q := 5) h rfl
  refine ⟨zq_k_u2 180 (fun z => .getfield z) 19 h rfl (zq_o_180 _) (by decide +kernel), ?_⟩
  replace h := zq_nx3 (q := 8) h rfl
  refine ⟨zq_k_n 28 h rfl (zq_o_28 _), ?_⟩
  replace h := zq_nx1 (q := 9) h rfl
  refine ⟨zq_k_u2 182 (fun z => .invokevirtual z) 135 h rfl (zq_o_182 _) (by decide +kernel), ?_⟩
  replace h := zq_nx3 (q := 12) h rfl
  refine ⟨zq_k_s2 154 (fun z => .ifCond .ne z) 19 h rfl (zq_o_154 _) (by decide +kernel), ?_⟩
  replace h := zq_nx3 (q := 15) h rfl
  refine ⟨zq_k_n 27 h rfl (zq_o_27 _), ?_⟩
  replace h := zq_nx1 (q := 16) h rfl
  refine ⟨zq_k_n 4 h rfl (zq_o_4 _), ?_⟩
  replace h := zq_nx1 (q := 17) h rfl
  refine ⟨zq_k_s2 160 (fun z => .if_icmp .ne z) 18 h rfl (zq_o_160 _) (by decide +kernel), ?_⟩
  replace h := zq_nx3 (q := 20) h rfl
  refine ⟨zq_k_n 42 h rfl (zq_o_42 _), ?_⟩
  replace h := zq_nx1 (q := 21) h rfl
  refine ⟨zq_k_u2 180 (fun z => .getfield z) 19 h rfl (zq_o_180 _) (by decide +kernel), ?_⟩
  replace h := zq_nx3 (q := 24) h rfl
  refine ⟨zq_k_n 28 h rfl (zq_o_28 _), ?_⟩
  replace h := zq_nx1 (q := 25) h rfl
  refine ⟨zq_k_u2 182 (fun z => .invokevirtual z) 109 h rfl (zq_o_182 _) (by decide +kernel), ?_⟩
  replace h := zq_nx3 (q := 28) h rfl
  refine ⟨zq_k_s2 153 (fun z => .ifCond .eq z) 7 h rfl (zq_o_153 _) (by decide +kernel), ?_⟩
  replace h := zq_nx3 (q := 31) h rfl
  refine ⟨zq_k_n 4 h rfl (zq_o_4 _), ?_⟩
  replace h := zq_nx1 (q := 32) h rfl
  refine ⟨zq_k_s2 167 (fun z => .goto z) 4 h rfl (zq_o_167 _) (by decide +kernel), ?_⟩
  replace h := zq_nx3 (q := 35) h rfl
  refine ⟨zq_k_n 3 h rfl (zq_o_3 _), ?_⟩
  replace h := zq_nx1 (q := 36) h rfl
  refine ⟨zq_k_u1 54 (fun z => .istore z) 4 h rfl (zq_o_54 _) (by decide +kernel), ?_⟩
  replace h := zq_nx2 (q := 38) h rfl
  refine ⟨zq_k_u1 21 (fun z => .iload z) 4 h rfl (zq_o_21 _) (by decide +kernel), ?_⟩
  replace h := zq_nx2 (q := 40) h rfl
  refine ⟨zq_k_s2 153 (fun z => .ifCond .eq z) 13 h rfl (zq_o_153 _) (by decide +kernel), ?_⟩
  replace h := zq_nx3 (q := 43) h rfl
  refine ⟨zq_k_n 29 h rfl (zq_o_29 _), ?_⟩
  replace h := zq_nx1 (q := 44) h rfl
  refine ⟨zq_k_n 3 h rfl (zq_o_3 _), ?_⟩
  replace h := zq_nx1 (q := 45) h rfl
  exact zq_k_s1 16 (fun z => .bipush z) 20 h rfl (zq_o_16 _) (by decide +kernel)
theorem d_Q_see_0 : decode prog_1_method_28_code 0 = .ok (.iload_n 1, 1) := dd_Q_see_0.1
theorem d_Q_see_1 : decode prog_1_method_28_code 1 = .ok (.ifCond .ne 14, 3) := dd_Q_see_0.2.1
theorem d_Q_see_4 : decode prog_1_method_28_code 4 = .ok (.aload_n 0, 1) := dd_Q_see_0.2.2.1
theorem d_Q_see_5 : decode prog_1_method_28_code 5 = .ok (.getfield 19, 3) := dd_Q_see_0.2.2.2.1
theorem d_Q_see_8 : decode prog_1_method_28_code 8 = .ok (.iload_n 2, 1) := dd_Q_see_0.2.2.2.2.1
theorem d_Q_see_9 : decode prog_1_method_28_code 9 = .ok (.invokevirtual 135, 3) := dd_Q_see_0.2.2.2.2.2.1
theorem d_Q_see_12 : decode prog_1_method_28_code 12 = .ok (.ifCond .ne 19, 3) := dd_Q_see_0.2.2.2.2.2.2.1
theorem d_Q_see_15 : decode prog_1_method_28_code 15 = .ok (.iload_n 1, 1) := dd_Q_see_0.2.2.2.2.2.2.2.1
theorem d_Q_see_16 : decode prog_1_method_28_code 16 = .ok (.iconst 1, 1) := dd_Q_see_0.2.2.2.2.2.2.2.2.1
theorem d_Q_see_17 : decode prog_1_method_28_code 17 = .ok (.if_icmp .ne 18, 3) := dd_Q_see_0.2.2.2.2.2.2.2.2.2.1
theorem d_Q_see_20 : decode prog_1_method_28_code 20 = .ok (.aload_n 0, 1) := dd_Q_see_0.2.2.2.2.2.2.2.2.2.2.1
theorem d_Q_see_21 : decode prog_1_method_28_code 21 = .ok (.getfield 19, 3) := dd_Q_see_0.2.2.2.2.2.2.2.2.2.2.2.1
theorem d_Q_see_24 : decode prog_1_method_28_code 24 = .ok (.iload_n 2, 1) := dd_Q_see_0.2.2.2.2.2.2.2.2.2.2.2.2.1
theorem d_Q_see_25 : decode prog_1_method_28_code 25 = .ok (.invokevirtual 109, 3) := dd_Q_see_0.2.2.2.2.2.2.2.2.2.2.2.2.2.1
theorem d_Q_see_28 : decode prog_1_method_28_code 28 = .ok (.ifCond .eq 7, 3) := dd_Q_see_0.2.2.2.2.2.2.2.2.2.2.2.2.2.2.1
theorem d_Q_see_31 : decode prog_1_method_28_code 31 = .ok (.iconst 1, 1) := dd_Q_see_0.2.2.2.2.2.2.2.2.2.2.2.2.2.2.2.1
theorem d_Q_see_32 : decode prog_1_method_28_code 32 = .ok (.goto 4, 3) := dd_Q_see_0.2.2.2.2.2.2.2.2.2.2.2.2.2.2.2.2.1
theorem d_Q_see_35 : decode prog_1_method_28_code 35 = .ok (.iconst 0, 1) := dd_Q_see_0.2.2.2.2.2.2.2.2.2.2.2.2.2.2.2.2.2.1
theorem d_Q_see_36 : decode prog_1_method_28_code 36 = .ok (.istore 4, 2) := dd_Q_see_0.2.2.2.2.2.2.2.2.2.2.2.2.2.2.2.2.2.2.1
theorem d_Q_see_38 : decode prog_1_method_28_code 38 = .ok (.iload 4, 2) := dd_Q_see_0.2.2.2.2.2.2.2.2.2.2.2.2.2.2.2.2.2.2.2.1
theorem d_Q_see_40 : decode prog_1_method_28_code 40 = .ok (.ifCond .eq 13, 3) := dd_Q_see_0.2.2.2.2.2.2.2.2.2.2.2.2.2.2.2.2.2.2.2.2.1
theorem d_Q_see_43 : decode prog_1_method_28_code 43 = .ok (.iload_n 3, 1) := dd_Q_see_0.2.2.2.2.2.2.2.2.2.2.2.2.2.2.2.2.2.2.2.2.2.1
theorem d_Q_see_44 : decode prog_1_method_28_code 44 = .ok (.iconst 0, 1) := dd_Q_see_0.2.2.2.2.2.2.2.2.2.2.2.2.2.2.2.2.2.2.2.2.2.2.1
theorem d_Q_see_45 : decode prog_1_method_28_code 45 = .ok (.bipush 20, 2) := dd_Q_see_0.2.2.2.2.2.2.2.2.2.2.2.2.2.2.2.2.2.2.2.2.2.2.2
set_option maxRecDepth 100000 in
theorem dd_Q_see_47 : (decode prog_1_method_28_code 47 = .ok (.invokestatic 62, 3)) ∧ (decode prog_1_method_28_code 50 = .ok (.ifCond .ne 5, 3)) ∧ (decode prog_1_method_28_code 53 = .ok (.iconst (-1), 1)) ∧ (decode prog_1_method_28_code 54 = .ok (.ireturn, 1)) ∧ (decode prog_1_method_28_code 55 = .ok (.aload_n 0, 1)) ∧ (decode prog_1_method_28_code 56 = .ok (.getfield 19, 3)) ∧ (decode prog_1_method_28_code 59 = .ok (.getfield 236, 3)) ∧ (decode prog_1_method_28_code 62 = .ok (.iload_n 1, 1)) ∧ (decode prog_1_method_28_code 63 = .ok (.iload_n 2, 1)) ∧ (decode prog_1_method_28_code 64 = .ok (.iload_n 3, 1)) ∧ (decode prog_1_method_28_code 65 = .ok (.invokevirtual 240, 3)) ∧ (decode prog_1_method_28_code 68 = .ok (.ifCond .eq 16, 3)) ∧ (decode prog_1_method_28_code 71 = .ok (.aload_n 0, 1)) ∧ (decode prog_1_method_28_code 72 = .ok (.getfield 19, 3)) ∧ (decode prog_1_method_28_code 75 = .ok (.getfield 236, 3)) ∧ (decode prog_1_method_28_code 78 = .ok (.getfield 244, 3)) ∧ (decode prog_1_method_28_code 81 = .ok (.goto 5, 3)) ∧ (decode prog_1_method_28_code 84 = .ok (.bipush (-3), 2)) ∧ (decode prog_1_method_28_code 86 = .ok (.ireturn, 1)) := by
  have h : List.drop 47 prog_1_method_28_code.data.toList = 0xb8 :: _ := rfl
  refine ⟨zq_k_u2 184 (fun z => .invokestatic z) 62 h rfl (zq_o_184 _) (by decide +kernel), ?_⟩
  replace h := zq_nx3 (q := 50) h rfl
  refine ⟨zq_k_s2 154 (fun z => .ifCond .ne z) 5 h rfl (zq_o_154 _) (by decide +kernel), ?_⟩
  replace h := zq_nx3 (q := 53) h rfl
  refine ⟨zq_k_n 2 h rfl (zq_o_2 _), ?_⟩
  replace h := zq_nx1 (q := 54) h rfl
  refine ⟨zq_k_n 172 h rfl (zq_o_172 _), ?_⟩
  replace h := zq_nx1 (q := 55) h rfl
  refine ⟨zq_k_n 42 h rfl (zq_o_42 _), ?_⟩
  replace h := zq_nx1 (q := 56) h rfl
  refine ⟨zq_k_u2 180 (fun z => .getfield z) 19 h rfl (zq_o_180 _) (by decide +kernel), ?_⟩
  replace h := zq_nx3 (q := 59) h rfl
  refine ⟨zq_k_u2 180 (fun z => .getfield z) 236 h rfl (zq_o_180 _) (by decide +kernel), ?_⟩
  replace h := zq_nx3 (q := 62) h rfl
  refine ⟨zq_k_n 27 h rfl (zq_o_27 _), ?_⟩
  replace h := zq_nx1 (q := 63) h rfl
  refine ⟨zq_k_n 28 h rfl (zq_o_28 _), ?_⟩
  replace h := zq_nx1 (q := 64) h rfl
  refine ⟨zq_k_n 29 h rfl (zq_o_29 _), ?_⟩
  replace h := zq_nx1 (q := 65) h rfl
  refine ⟨zq_k_u2 182 (fun z => .invokevirtual z) 240 h rfl (zq_o_182 _) (by decide +kernel), ?_⟩
  replace h := zq_nx3 (q := 68) h rfl
  refine ⟨zq_k_s2 153 (fun z => .ifCond .eq z) 16 h rfl (zq_o_153 _) (by decide +kernel), ?_⟩
  replace h := zq_nx3 (q := 71) h rfl
  refine ⟨zq_k_n 42 h rfl (zq_o_42 _), ?_⟩
  replace h := zq_nx1 (q := 72) h rfl
  refine ⟨zq_k_u2 180 (fun z => .getfield z) 19 h rfl (zq_o_180 _) (by decide +kernel), ?_⟩
  replace h := zq_nx3 (q := 75) h rfl
  refine ⟨zq_k_u2 180 (fun z => .getfield z) 236 h rfl (zq_o_180 _) (by decide +kernel), ?_⟩
  replace h := zq_nx3 (q := 78) h rfl
  refine ⟨zq_k_u2 180 (fun z => .getfield z) 244 h rfl (zq_o_180 _) (by decide +kernel), ?_⟩
  replace h := zq_nx3 (q := 81) h rfl
  refine ⟨zq_k_s2 167 (fun z => .goto z) 5 h rfl (zq_o_167 _) (by decide +kernel), ?_⟩
  replace h := zq_nx3 (q := 84) h rfl
  refine ⟨zq_k_s1 16 (fun z => .bipush z) (-3) h rfl (zq_o_16 _) (by decide +kernel), ?_⟩
  replace h := zq_nx2 (q := 86) h rfl
  exact zq_k_n 172 h rfl (zq_o_172 _)
theorem d_Q_see_47 : decode prog_1_method_28_code 47 = .ok (.invokestatic 62, 3) := dd_Q_see_47.1
theorem d_Q_see_50 : decode prog_1_method_28_code 50 = .ok (.ifCond .ne 5, 3) := dd_Q_see_47.2.1
theorem d_Q_see_53 : decode prog_1_method_28_code 53 = .ok (.iconst (-1), 1) := dd_Q_see_47.2.2.1
theorem d_Q_see_54 : decode prog_1_method_28_code 54 = .ok (.ireturn, 1) := dd_Q_see_47.2.2.2.1
theorem d_Q_see_55 : decode prog_1_method_28_code 55 = .ok (.aload_n 0, 1) := dd_Q_see_47.2.2.2.2.1
theorem d_Q_see_56 : decode prog_1_method_28_code 56 = .ok (.getfield 19, 3) := dd_Q_see_47.2.2.2.2.2.1
theorem d_Q_see_59 : decode prog_1_method_28_code 59 = .ok (.getfield 236, 3) := dd_Q_see_47.2.2.2.2.2.2.1
theorem d_Q_see_62 : decode prog_1_method_28_code 62 = .ok (.iload_n 1, 1) := dd_Q_see_47.2.2.2.2.2.2.2.1
theorem d_Q_see_63 : decode prog_1_method_28_code 63 = .ok (.iload_n 2, 1) := dd_Q_see_47.2.2.2.2.2.2.2.2.1
theorem d_Q_see_64 : decode prog_1_method_28_code 64 = .ok (.iload_n 3, 1) := dd_Q_see_47.2.2.2.2.2.2.2.2.2.1
theorem d_Q_see_65 : decode prog_1_method_28_code 65 = .ok (.invokevirtual 240, 3) := dd_Q_see_47.2.2.2.2.2.2.2.2.2.2.1
theorem d_Q_see_68 : decode prog_1_method_28_code 68 = .ok (.ifCond .eq 16, 3) := dd_Q_see_47.2.2.2.2.2.2.2.2.2.2.2.1
theorem d_Q_see_71 : decode prog_1_method_28_code 71 = .ok (.aload_n 0, 1) := dd_Q_see_47.2.2.2.2.2.2.2.2.2.2.2.2.1
theorem d_Q_see_72 : decode prog_1_method_28_code 72 = .ok (.getfield 19, 3) := dd_Q_see_47.2.2.2.2.2.2.2.2.2.2.2.2.2.1
theorem d_Q_see_75 : decode prog_1_method_28_code 75 = .ok (.getfield 236, 3) := dd_Q_see_47.2.2.2.2.2.2.2.2.2.2.2.2.2.2.1
theorem d_Q_see_78 : decode prog_1_method_28_code 78 = .ok (.getfield 244, 3) := dd_Q_see_47.2.2.2.2.2.2.2.2.2.2.2.2.2.2.2.1
theorem d_Q_see_81 : decode prog_1_method_28_code 81 = .ok (.goto 5, 3) := dd_Q_see_47.2.2.2.2.2.2.2.2.2.2.2.2.2.2.2.2.1
theorem d_Q_see_84 : decode prog_1_method_28_code 84 = .ok (.bipush (-3), 2) := dd_Q_see_47.2.2.2.2.2.2.2.2.2.2.2.2.2.2.2.2.2.1
theorem d_Q_see_86 : decode prog_1_method_28_code 86 = .ok (.ireturn, 1) := dd_Q_see_47.2.2.2.2.2.2.2.2.2.2.2.2.2.2.2.2.2.2
def f_Q_see_53   (h : mH) : Option (Int32 × mH) :=
  some (((-1) : Int32), h)
set_option maxRecDepth 20000 in
theorem t_Q_see_53 {sc : Nat × (Nat → Int32)}   (h : mH) (r : Int32) (h' : mH) (hf : f_Q_see_53   h = some (r, h')) : G sc y_Q_see prog_1_method_28_code 5 (some .int) 1 23 53 [] [] h (some (.int r)) h' := by
  unfold f_Q_see_53 at hf
  refine g_iconst (pc := 53) ((-1) : Int32) d_Q_see_53 (by decide) ?_
  obtain ⟨rfl, rfl⟩ := ret2 hf
  exact g_iret (pc := 54) rfl d_Q_see_54
def f_Q_see_36  (b0 : Nat) (b1 : Int32) (b2 : Int32) (b3 : Int32) (s0 : Int32) (h : mH) : Option (Int32 × mH) :=
  if s0 = 0 then
    f_Q_see_53  h
  else
    bd2 (f_Q_isWithin b3 (0 : Int32) (20 : Int32) h) fun x21 h19 =>
    if x21 = 0 then
      f_Q_see_53  h19
    else
      bd1 (gR h19 b0 0 1) fun x22 =>
      bd1 (gR h19 x22 4 18) fun x24 =>
      bd1 (kC h19 x24 6) fun _ =>
      bd2 (f_Sightings_append x24 b1 b2 b3 h19) fun x30 h28 =>
      if x30 = 0 then
        some (((-3) : Int32), h28)
      else
        bd1 (gR h28 b0 0 1) fun x31 =>
        bd1 (gR h28 x31 4 18) fun x33 =>
        bd1 (gI h28 x33 6 0) fun x35 =>
        some (x35, h28)
set_option maxRecDepth 20000 in
theorem t_Q_see_36 {sc : Nat × (Nat → Int32)}  (b0 : Nat) (b1 : Int32) (b2 : Int32) (b3 : Int32) (s0 : Int32) (h : mH) (r : Int32) (h' : mH) (hf : f_Q_see_36  b0 b1 b2 b3 s0 h = some (r, h')) : G sc y_Q_see prog_1_method_28_code 5 (some .int) 1 23 36 [(0, .ref b0), (1, .int b1), (2, .int b2), (3, .int b3)] [.int s0] h (some (.int r)) h' := by
  unfold f_Q_see_36 at hf
  refine g_istore (pc := 36) [(4, .int s0), (0, .ref b0), (1, .int b1), (2, .int b2), (3, .int b3)] d_Q_see_36 (Nat.le_of_ble_eq_true rfl) rfl ?_
  refine g_iload (pc := 38) 0 d_Q_see_38 rfl ?_
  refine g_ifeq (pc := 40) 53 d_Q_see_40 (by decide) (fun c39 => ?_) (fun c39 => ?_)
  · replace hf := (if_pos c39).symm.trans hf
    refine g_lv [] rfl ?_
    exact t_Q_see_53  _ _ _  hf
  · replace hf := (if_neg c39).symm.trans hf
    refine g_iload_n (pc := 43) 4 d_Q_see_43 rfl rfl ?_
    refine g_iconst (pc := 44) (0 : Int32) d_Q_see_44 (by decide) ?_
    refine g_bipush (pc := 45) (20 : Int32) d_Q_see_45 (by decide) ?_
    obtain ⟨x21, h19, e20, hf⟩ := bd2_e hf
    refine g_callS (pc := 47) [.int b3, .int (0 : Int32), .int (20 : Int32)] (site_of si_Q_isWithin (by decide) (by decide)) wd_331 wd_332 d_Q_see_47 (Nat.le_of_ble_eq_true rfl) (fun z => absurd z (by decide)) (fun z => absurd z (by decide)) (fun z => absurd z (by decide)) (c_Q_isWithin e20) rfl ?_
    refine g_st [.int x21] rfl ?_
    refine g_ifne (pc := 50) 55 d_Q_see_50 (by decide) (fun c38 => ?_) (fun c38 => ?_)
    · replace hf := (if_neg c38).symm.trans hf
      refine g_aload_n (pc := 55) 1 d_Q_see_55 rfl rfl ?_
      obtain ⟨x22, e23, hf⟩ := bd1_e hf
      refine g_get (pc := 56) (ci := 0) (kk := 1) d_Q_see_56 rfl in_Q (by decide) wd_297 (gR_spec e23) ?_
      obtain ⟨x24, e25, hf⟩ := bd1_e hf
      refine g_get (pc := 59) (ci := 4) (kk := 18) d_Q_see_59 rfl in_Realm (by decide) wd_155 (gR_spec e25) ?_
      refine g_iload_n (pc := 62) 2 d_Q_see_62 rfl rfl ?_
      refine g_iload_n (pc := 63) 3 d_Q_see_63 rfl rfl ?_
      refine g_iload_n (pc := 64) 4 d_Q_see_64 rfl rfl ?_
      obtain ⟨u27, e26, hf⟩ := bd1_e hf
      obtain ⟨x30, h28, e29, hf⟩ := bd2_e hf
      refine g_callV (pc := 65) (ci := 6) [.int b1, .int b2, .int b3] (site_of si_Sightings_append (by decide) (by decide)) wd_772 wd_773 wd_774 d_Q_see_65 rfl e26 (Nat.le_of_ble_eq_true rfl) (fun z => absurd z (by decide)) (fun z => absurd z (by decide)) (fun z => absurd z (by decide)) (c_Sightings_append e29) rfl ?_
      refine g_st [.int x30] rfl ?_
      refine g_ifeq (pc := 68) 84 d_Q_see_68 (by decide) (fun c37 => ?_) (fun c37 => ?_)
      · replace hf := (if_pos c37).symm.trans hf
        refine g_bipush (pc := 84) ((-3) : Int32) d_Q_see_84 (by decide) ?_
        obtain ⟨rfl, rfl⟩ := ret2 hf
        exact g_iret (pc := 86) rfl d_Q_see_86
      · replace hf := (if_neg c37).symm.trans hf
        refine g_aload_n (pc := 71) 1 d_Q_see_71 rfl rfl ?_
        obtain ⟨x31, e32, hf⟩ := bd1_e hf
        refine g_get (pc := 72) (ci := 0) (kk := 1) d_Q_see_72 rfl in_Q (by decide) wd_297 (gR_spec e32) ?_
        obtain ⟨x33, e34, hf⟩ := bd1_e hf
        refine g_get (pc := 75) (ci := 4) (kk := 18) d_Q_see_75 rfl in_Realm (by decide) wd_155 (gR_spec e34) ?_
        obtain ⟨x35, e36, hf⟩ := bd1_e hf
        refine g_get (pc := 78) (ci := 6) (kk := 0) d_Q_see_78 rfl in_Sightings (by decide) wd_79 (gI_spec e36) ?_
        refine g_goto (pc := 81) 86 d_Q_see_81 (by decide) ?_
        obtain ⟨rfl, rfl⟩ := ret2 hf
        exact g_iret (pc := 86) rfl d_Q_see_86
    · replace hf := (if_pos c38).symm.trans hf
      refine g_lv [] rfl ?_
      exact t_Q_see_53  _ _ _  hf
def f_Q_see_35  (b0 : Nat) (b1 : Int32) (b2 : Int32) (b3 : Int32) (h : mH) : Option (Int32 × mH) :=
  f_Q_see_36  b0 b1 b2 b3 (0 : Int32) h
set_option maxRecDepth 20000 in
theorem t_Q_see_35 {sc : Nat × (Nat → Int32)}  (b0 : Nat) (b1 : Int32) (b2 : Int32) (b3 : Int32) (h : mH) (r : Int32) (h' : mH) (hf : f_Q_see_35  b0 b1 b2 b3 h = some (r, h')) : G sc y_Q_see prog_1_method_28_code 5 (some .int) 1 23 35 [(0, .ref b0), (1, .int b1), (2, .int b2), (3, .int b3)] [] h (some (.int r)) h' := by
  unfold f_Q_see_35 at hf
  refine g_iconst (pc := 35) (0 : Int32) d_Q_see_35 (by decide) ?_
  refine g_lv [0, 1, 2, 3] rfl ?_
  exact t_Q_see_36  _ _ _ _ _ _ _ _  hf
def f_Q_see_31  (b0 : Nat) (b1 : Int32) (b2 : Int32) (b3 : Int32) (h : mH) : Option (Int32 × mH) :=
  f_Q_see_36  b0 b1 b2 b3 (1 : Int32) h
set_option maxRecDepth 20000 in
theorem t_Q_see_31 {sc : Nat × (Nat → Int32)}  (b0 : Nat) (b1 : Int32) (b2 : Int32) (b3 : Int32) (h : mH) (r : Int32) (h' : mH) (hf : f_Q_see_31  b0 b1 b2 b3 h = some (r, h')) : G sc y_Q_see prog_1_method_28_code 5 (some .int) 1 23 31 [(0, .ref b0), (1, .int b1), (2, .int b2), (3, .int b3)] [] h (some (.int r)) h' := by
  unfold f_Q_see_31 at hf
  refine g_iconst (pc := 31) (1 : Int32) d_Q_see_31 (by decide) ?_
  refine g_goto (pc := 32) 36 d_Q_see_32 (by decide) ?_
  refine g_lv [0, 1, 2, 3] rfl ?_
  exact t_Q_see_36  _ _ _ _ _ _ _ _  hf
def f_Q_see_15  (b0 : Nat) (b1 : Int32) (b2 : Int32) (b3 : Int32) (h : mH) : Option (Int32 × mH) :=
  if b1 = (1 : Int32) then
    bd1 (gR h b0 0 1) fun x10 =>
    bd1 (kC h x10 4) fun _ =>
    bd2 (f_Realm_hasLaw x10 b2 h) fun x16 h14 =>
    if x16 = 0 then
      f_Q_see_35  b0 b1 b2 b3 h14
    else
      f_Q_see_31  b0 b1 b2 b3 h14
  else
    f_Q_see_35  b0 b1 b2 b3 h
set_option maxRecDepth 20000 in
theorem t_Q_see_15 {sc : Nat × (Nat → Int32)}  (b0 : Nat) (b1 : Int32) (b2 : Int32) (b3 : Int32) (h : mH) (r : Int32) (h' : mH) (hf : f_Q_see_15  b0 b1 b2 b3 h = some (r, h')) : G sc y_Q_see prog_1_method_28_code 5 (some .int) 1 23 15 [(0, .ref b0), (1, .int b1), (2, .int b2), (3, .int b3)] [] h (some (.int r)) h' := by
  unfold f_Q_see_15 at hf
  refine g_iload_n (pc := 15) 1 d_Q_see_15 rfl rfl ?_
  refine g_iconst (pc := 16) (1 : Int32) d_Q_see_16 (by decide) ?_
  refine g_icmpne (pc := 17) 35 d_Q_see_17 (by decide) (fun c18 => ?_) (fun c18 => ?_)
  · replace hf := (if_neg c18).symm.trans hf
    refine g_lv [0, 1, 2, 3] rfl ?_
    exact t_Q_see_35  _ _ _ _ _ _ _  hf
  · replace hf := (if_pos c18).symm.trans hf
    refine g_aload_n (pc := 20) 0 d_Q_see_20 rfl rfl ?_
    obtain ⟨x10, e11, hf⟩ := bd1_e hf
    refine g_get (pc := 21) (ci := 0) (kk := 1) d_Q_see_21 rfl in_Q (by decide) wd_297 (gR_spec e11) ?_
    refine g_iload_n (pc := 24) 2 d_Q_see_24 rfl rfl ?_
    obtain ⟨u13, e12, hf⟩ := bd1_e hf
    obtain ⟨x16, h14, e15, hf⟩ := bd2_e hf
    refine g_callV (pc := 25) (ci := 4) [.int b2] (site_of si_Realm_hasLaw (by decide) (by decide)) wd_519 wd_488 wd_489 d_Q_see_25 rfl e12 (Nat.le_of_ble_eq_true rfl) (fun z => absurd z (by decide)) (fun z => absurd z (by decide)) (fun z => absurd z (by decide)) (c_Realm_hasLaw e15) rfl ?_
    refine g_st [.int x16] rfl ?_
    refine g_ifeq (pc := 28) 35 d_Q_see_28 (by decide) (fun c17 => ?_) (fun c17 => ?_)
    · replace hf := (if_pos c17).symm.trans hf
      refine g_lv [0, 1, 2, 3] rfl ?_
      exact t_Q_see_35  _ _ _ _ _ _ _  hf
    · replace hf := (if_neg c17).symm.trans hf
      refine g_lv [0, 1, 2, 3] rfl ?_
      exact t_Q_see_31  _ _ _ _ _ _ _  hf
def f_Q_see_0  (a0 : Nat) (a1 : Int32) (a2 : Int32) (a3 : Int32) (h : mH) : Option (Int32 × mH) :=
  if a1 = 0 then
    bd1 (gR h a0 0 1) fun x1 =>
    bd1 (kC h x1 4) fun _ =>
    bd2 (f_Realm_hasOne x1 a2 h) fun x7 h5 =>
    if x7 = 0 then
      f_Q_see_15  a0 a1 a2 a3 h5
    else
      f_Q_see_31  a0 a1 a2 a3 h5
  else
    f_Q_see_15  a0 a1 a2 a3 h
set_option maxRecDepth 20000 in
theorem t_Q_see_0 {sc : Nat × (Nat → Int32)}  (a0 : Nat) (a1 : Int32) (a2 : Int32) (a3 : Int32) (h : mH) (r : Int32) (h' : mH) (hf : f_Q_see_0  a0 a1 a2 a3 h = some (r, h')) : G sc y_Q_see prog_1_method_28_code 5 (some .int) 1 23 0 [(0, .ref a0), (1, .int a1), (2, .int a2), (3, .int a3)] [] h (some (.int r)) h' := by
  unfold f_Q_see_0 at hf
  refine g_iload_n (pc := 0) 1 d_Q_see_0 rfl rfl ?_
  refine g_ifne (pc := 1) 15 d_Q_see_1 (by decide) (fun c9 => ?_) (fun c9 => ?_)
  · replace hf := (if_neg c9).symm.trans hf
    refine g_lv [0, 1, 2, 3] rfl ?_
    exact t_Q_see_15  _ _ _ _ _ _ _  hf
  · replace hf := (if_pos c9).symm.trans hf
    refine g_aload_n (pc := 4) 0 d_Q_see_4 rfl rfl ?_
    obtain ⟨x1, e2, hf⟩ := bd1_e hf
    refine g_get (pc := 5) (ci := 0) (kk := 1) d_Q_see_5 rfl in_Q (by decide) wd_297 (gR_spec e2) ?_
    refine g_iload_n (pc := 8) 2 d_Q_see_8 rfl rfl ?_
    obtain ⟨u4, e3, hf⟩ := bd1_e hf
    obtain ⟨x7, h5, e6, hf⟩ := bd2_e hf
    refine g_callV (pc := 9) (ci := 4) [.int a2] (site_of si_Realm_hasOne (by decide) (by decide)) wd_541 wd_492 wd_493 d_Q_see_9 rfl e3 (Nat.le_of_ble_eq_true rfl) (fun z => absurd z (by decide)) (fun z => absurd z (by decide)) (fun z => absurd z (by decide)) (c_Realm_hasOne e6) rfl ?_
    refine g_st [.int x7] rfl ?_
    refine g_ifne (pc := 12) 31 d_Q_see_12 (by decide) (fun c8 => ?_) (fun c8 => ?_)
    · replace hf := (if_neg c8).symm.trans hf
      refine g_lv [0, 1, 2, 3] rfl ?_
      exact t_Q_see_31  _ _ _ _ _ _ _  hf
    · replace hf := (if_pos c8).symm.trans hf
      refine g_lv [0, 1, 2, 3] rfl ?_
      exact t_Q_see_15  _ _ _ _ _ _ _  hf
def f_Q_see (a0 : Nat) (a1 : Int32) (a2 : Int32) (a3 : Int32) (h : mH) : Option (Int32 × mH) := f_Q_see_0 a0 a1 a2 a3 h
theorem c_Q_see {sc : Nat × (Nat → Int32)} {a0 : Nat} {a1 : Int32} {a2 : Int32} {a3 : Int32} {h : mH} {r : Int32} {h' : mH} (hf : f_Q_see a0 a1 a2 a3 h = some (r, h')) : MM sc y_Q_see prog_1_method_28_code 5 (some .int) 1 23 [.ref a0, .int a1, .int a2, .int a3] h (some (.int r)) h' :=
  mm_of_G (by decide) (Nat.le_of_ble_eq_true rfl) (t_Q_see_0 _ _ _ _ _ _ _ hf)
/-! Q forget (I)I -/
set_option maxRecDepth 100000 in
theorem dd_Q_forget_0 : (decode prog_1_method_29_code 0 = .ok (.iload_n 1, 1)) ∧ (decode prog_1_method_29_code 1 = .ok (.iconst 0, 1)) ∧ (decode prog_1_method_29_code 2 = .ok (.aload_n 0, 1)) ∧ (decode prog_1_method_29_code 3 = .ok (.getfield 19, 3)) ∧ (decode prog_1_method_29_code 6 = .ok (.getfield 236, 3)) ∧ (decode prog_1_method_29_code 9 = .ok (.getfield 244, 3)) ∧ (decode prog_1_method_29_code 12 = .ok (.invokestatic 62, 3)) ∧ (decode prog_1_method_29_code 15 = .ok (.ifCond .ne 5, 3)) ∧ (decode prog_1_method_29_code 18 = .ok (.iconst (-1), 1)) ∧ (decode prog_1_method_29_code 19 = .ok (.ireturn, 1)) ∧ (decode prog_1_method_29_code 20 = .ok (.aload_n 0, 1)) ∧ (decode prog_1_method_29_code 21 = .ok (.getfield 19, 3)) ∧ (decode prog_1_method_29_code 24 = .ok (.getfield 236, 3)) ∧ (decode prog_1_method_29_code 27 = .ok (.getfield 244, 3)) ∧ (decode prog_1_method_29_code 30 = .ok (.istore_n 2, 1)) ∧ (decode prog_1_method_29_code 31 = .ok (.aload_n 0, 1)) ∧ (decode prog_1_method_29_code 32 = .ok (.getfield 19, 3)) ∧ (decode prog_1_method_29_code 35 = .ok (.getfield 236, 3)) ∧ (decode prog_1_method_29_code 38 = .ok (.iload_n 1, 1)) ∧ (decode prog_1_method_29_code 39 = .ok (.putfield 244, 3)) ∧ (decode prog_1_method_29_code 42 = .ok (.iload_n 2, 1)) ∧ (decode prog_1_method_29_code 43 = .ok (.ireturn, 1)) := by
  have h : List.drop 0 prog_1_method_29_code.data.toList = 0x1b :: _ := rfl
  refine ⟨zq_k_n 27 h rfl (zq_o_27 _), ?_⟩
  replace h := zq_nx1 (q := 1) h rfl
  refine ⟨zq_k_n 3 h rfl (zq_o_3 _), ?_⟩
  replace h := zq_nx1 (q := 2) h rfl
  refine ⟨zq_k_n 42 h rfl (zq_o_42 _), ?_⟩
  replace h := zq_nx1 (q := 3) h rfl
  refine ⟨zq_k_u2 180 (fun z => .getfield z) 19 h rfl (zq_o_180 _) (by decide +kernel), ?_⟩
  replace h := zq_nx3 (q := 6) h rfl
  refine ⟨zq_k_u2 180 (fun z => .getfield z) 236 h rfl (zq_o_180 _) (by decide +kernel), ?_⟩
  replace h := zq_nx3 (q := 9) h rfl
  refine ⟨zq_k_u2 180 (fun z => .getfield z) 244 h rfl (zq_o_180 _) (by decide +kernel), ?_⟩
  replace h := zq_nx3 (q := 12) h rfl
  refine ⟨zq_k_u2 184 (fun z => .invokestatic z) 62 h rfl (zq_o_184 _) (by decide +kernel), ?_⟩
  replace h := zq_nx3 (q := 15) h rfl
  refine ⟨zq_k_s2 154 (fun z => .ifCond .ne z) 5 h rfl (zq_o_154 _) (by decide +kernel), ?_⟩
  replace h := zq_nx3 (q := 18) h rfl
  refine ⟨zq_k_n 2 h rfl (zq_o_2 _), ?_⟩
  replace h := zq_nx1 (q := 19) h rfl
  refine ⟨zq_k_n 172 h rfl (zq_o_172 _), ?_⟩
  replace h := zq_nx1 (q := 20) h rfl
  refine ⟨zq_k_n 42 h rfl (zq_o_42 _), ?_⟩
  replace h := zq_nx1 (q := 21) h rfl
  refine ⟨zq_k_u2 180 (fun z => .getfield z) 19 h rfl (zq_o_180 _) (by decide +kernel), ?_⟩
  replace h := zq_nx3 (q := 24) h rfl
  refine ⟨zq_k_u2 180 (fun z => .getfield z) 236 h rfl (zq_o_180 _) (by decide +kernel), ?_⟩
  replace h := zq_nx3 (q := 27) h rfl
  refine ⟨zq_k_u2 180 (fun z => .getfield z) 244 h rfl (zq_o_180 _) (by decide +kernel), ?_⟩
  replace h := zq_nx3 (q := 30) h rfl
  refine ⟨zq_k_n 61 h rfl (zq_o_61 _), ?_⟩
  replace h := zq_nx1 (q := 31) h rfl
  refine ⟨zq_k_n 42 h rfl (zq_o_42 _), ?_⟩
  replace h := zq_nx1 (q := 32) h rfl
  refine ⟨zq_k_u2 180 (fun z => .getfield z) 19 h rfl (zq_o_180 _) (by decide +kernel), ?_⟩
  replace h := zq_nx3 (q := 35) h rfl
  refine ⟨zq_k_u2 180 (fun z => .getfield z) 236 h rfl (zq_o_180 _) (by decide +kernel), ?_⟩
  replace h := zq_nx3 (q := 38) h rfl
  refine ⟨zq_k_n 27 h rfl (zq_o_27 _), ?_⟩
  replace h := zq_nx1 (q := 39) h rfl
  refine ⟨zq_k_u2 181 (fun z => .putfield z) 244 h rfl (zq_o_181 _) (by decide +kernel), ?_⟩
  replace h := zq_nx3 (q := 42) h rfl
  refine ⟨zq_k_n 28 h rfl (zq_o_28 _), ?_⟩
  replace h := zq_nx1 (q := 43) h rfl
  exact zq_k_n 172 h rfl (zq_o_172 _)
theorem d_Q_forget_0 : decode prog_1_method_29_code 0 = .ok (.iload_n 1, 1) := dd_Q_forget_0.1
theorem d_Q_forget_1 : decode prog_1_method_29_code 1 = .ok (.iconst 0, 1) := dd_Q_forget_0.2.1
theorem d_Q_forget_2 : decode prog_1_method_29_code 2 = .ok (.aload_n 0, 1) := dd_Q_forget_0.2.2.1
theorem d_Q_forget_3 : decode prog_1_method_29_code 3 = .ok (.getfield 19, 3) := dd_Q_forget_0.2.2.2.1
theorem d_Q_forget_6 : decode prog_1_method_29_code 6 = .ok (.getfield 236, 3) := dd_Q_forget_0.2.2.2.2.1
theorem d_Q_forget_9 : decode prog_1_method_29_code 9 = .ok (.getfield 244, 3) := dd_Q_forget_0.2.2.2.2.2.1
theorem d_Q_forget_12 : decode prog_1_method_29_code 12 = .ok (.invokestatic 62, 3) := dd_Q_forget_0.2.2.2.2.2.2.1
theorem d_Q_forget_15 : decode prog_1_method_29_code 15 = .ok (.ifCond .ne 5, 3) := dd_Q_forget_0.2.2.2.2.2.2.2.1
theorem d_Q_forget_18 : decode prog_1_method_29_code 18 = .ok (.iconst (-1), 1) := dd_Q_forget_0.2.2.2.2.2.2.2.2.1
theorem d_Q_forget_19 : decode prog_1_method_29_code 19 = .ok (.ireturn, 1) := dd_Q_forget_0.2.2.2.2.2.2.2.2.2.1
theorem d_Q_forget_20 : decode prog_1_method_29_code 20 = .ok (.aload_n 0, 1) := dd_Q_forget_0.2.2.2.2.2.2.2.2.2.2.1
theorem d_Q_forget_21 : decode prog_1_method_29_code 21 = .ok (.getfield 19, 3) := dd_Q_forget_0.2.2.2.2.2.2.2.2.2.2.2.1
theorem d_Q_forget_24 : decode prog_1_method_29_code 24 = .ok (.getfield 236, 3) := dd_Q_forget_0.2.2.2.2.2.2.2.2.2.2.2.2.1
theorem d_Q_forget_27 : decode prog_1_method_29_code 27 = .ok (.getfield 244, 3) := dd_Q_forget_0.2.2.2.2.2.2.2.2.2.2.2.2.2.1
theorem d_Q_forget_30 : decode prog_1_method_29_code 30 = .ok (.istore_n 2, 1) := dd_Q_forget_0.2.2.2.2.2.2.2.2.2.2.2.2.2.2.1
theorem d_Q_forget_31 : decode prog_1_method_29_code 31 = .ok (.aload_n 0, 1) := dd_Q_forget_0.2.2.2.2.2.2.2.2.2.2.2.2.2.2.2.1
theorem d_Q_forget_32 : decode prog_1_method_29_code 32 = .ok (.getfield 19, 3) := dd_Q_forget_0.2.2.2.2.2.2.2.2.2.2.2.2.2.2.2.2.1
theorem d_Q_forget_35 : decode prog_1_method_29_code 35 = .ok (.getfield 236, 3) := dd_Q_forget_0.2.2.2.2.2.2.2.2.2.2.2.2.2.2.2.2.2.1
theorem d_Q_forget_38 : decode prog_1_method_29_code 38 = .ok (.iload_n 1, 1) := dd_Q_forget_0.2.2.2.2.2.2.2.2.2.2.2.2.2.2.2.2.2.2.1
theorem d_Q_forget_39 : decode prog_1_method_29_code 39 = .ok (.putfield 244, 3) := dd_Q_forget_0.2.2.2.2.2.2.2.2.2.2.2.2.2.2.2.2.2.2.2.1
theorem d_Q_forget_42 : decode prog_1_method_29_code 42 = .ok (.iload_n 2, 1) := dd_Q_forget_0.2.2.2.2.2.2.2.2.2.2.2.2.2.2.2.2.2.2.2.2.1
theorem d_Q_forget_43 : decode prog_1_method_29_code 43 = .ok (.ireturn, 1) := dd_Q_forget_0.2.2.2.2.2.2.2.2.2.2.2.2.2.2.2.2.2.2.2.2.2
def f_Q_forget_0  (a0 : Nat) (a1 : Int32) (h : mH) : Option (Int32 × mH) :=
  bd1 (gR h a0 0 1) fun x1 =>
  bd1 (gR h x1 4 18) fun x3 =>
  bd1 (gI h x3 6 0) fun x5 =>
  bd2 (f_Q_isWithin a1 (0 : Int32) x5 h) fun x9 h7 =>
  if x9 = 0 then
    some (((-1) : Int32), h7)
  else
    bd1 (gR h7 a0 0 1) fun x10 =>
    bd1 (gR h7 x10 4 18) fun x12 =>
    bd1 (gI h7 x12 6 0) fun x14 =>
    bd1 (gR h7 a0 0 1) fun x16 =>
    bd1 (gR h7 x16 4 18) fun x18 =>
    bd1 (pV h7 x18 6 0 (.int a1)) fun h20 =>
    some (x14, h20)
set_option maxRecDepth 20000 in
theorem t_Q_forget_0 {sc : Nat × (Nat → Int32)}  (a0 : Nat) (a1 : Int32) (h : mH) (r : Int32) (h' : mH) (hf : f_Q_forget_0  a0 a1 h = some (r, h')) : G sc y_Q_forget prog_1_method_29_code 3 (some .int) 1 22 0 [(0, .ref a0), (1, .int a1)] [] h (some (.int r)) h' := by
  unfold f_Q_forget_0 at hf
  refine g_iload_n (pc := 0) 1 d_Q_forget_0 rfl rfl ?_
  refine g_iconst (pc := 1) (0 : Int32) d_Q_forget_1 (by decide) ?_
  refine g_aload_n (pc := 2) 0 d_Q_forget_2 rfl rfl ?_
  obtain ⟨x1, e2, hf⟩ := bd1_e hf
  refine g_get (pc := 3) (ci := 0) (kk := 1) d_Q_forget_3 rfl in_Q (by decide) wd_297 (gR_spec e2) ?_
  obtain ⟨x3, e4, hf⟩ := bd1_e hf
  refine g_get (pc := 6) (ci := 4) (kk := 18) d_Q_forget_6 rfl in_Realm (by decide) wd_155 (gR_spec e4) ?_
  obtain ⟨x5, e6, hf⟩ := bd1_e hf
  refine g_get (pc := 9) (ci := 6) (kk := 0) d_Q_forget_9 rfl in_Sightings (by decide) wd_79 (gI_spec e6) ?_
  obtain ⟨x9, h7, e8, hf⟩ := bd2_e hf
  refine g_callS (pc := 12) [.int a1, .int (0 : Int32), .int x5] (site_of si_Q_isWithin (by decide) (by decide)) wd_331 wd_332 d_Q_forget_12 (Nat.le_of_ble_eq_true rfl) (fun z => absurd z (by decide)) (fun z => absurd z (by decide)) (fun z => absurd z (by decide)) (c_Q_isWithin e8) rfl ?_
  refine g_st [.int x9] rfl ?_
  refine g_ifne (pc := 15) 20 d_Q_forget_15 (by decide) (fun c22 => ?_) (fun c22 => ?_)
  · replace hf := (if_neg c22).symm.trans hf
    refine g_aload_n (pc := 20) 0 d_Q_forget_20 rfl rfl ?_
    obtain ⟨x10, e11, hf⟩ := bd1_e hf
    refine g_get (pc := 21) (ci := 0) (kk := 1) d_Q_forget_21 rfl in_Q (by decide) wd_297 (gR_spec e11) ?_
    obtain ⟨x12, e13, hf⟩ := bd1_e hf
    refine g_get (pc := 24) (ci := 4) (kk := 18) d_Q_forget_24 rfl in_Realm (by decide) wd_155 (gR_spec e13) ?_
    obtain ⟨x14, e15, hf⟩ := bd1_e hf
    refine g_get (pc := 27) (ci := 6) (kk := 0) d_Q_forget_27 rfl in_Sightings (by decide) wd_79 (gI_spec e15) ?_
    refine g_istore_n (pc := 30) [(2, .int x14), (0, .ref a0), (1, .int a1)] d_Q_forget_30 rfl (Nat.le_of_ble_eq_true rfl) rfl ?_
    refine g_aload_n (pc := 31) 1 d_Q_forget_31 rfl rfl ?_
    obtain ⟨x16, e17, hf⟩ := bd1_e hf
    refine g_get (pc := 32) (ci := 0) (kk := 1) d_Q_forget_32 rfl in_Q (by decide) wd_297 (gR_spec e17) ?_
    obtain ⟨x18, e19, hf⟩ := bd1_e hf
    refine g_get (pc := 35) (ci := 4) (kk := 18) d_Q_forget_35 rfl in_Realm (by decide) wd_155 (gR_spec e19) ?_
    refine g_iload_n (pc := 38) 2 d_Q_forget_38 rfl rfl ?_
    obtain ⟨h20, e21, hf⟩ := bd1_e hf
    refine g_put (pc := 39) (ci := 6) (kk := 0) ty_Sightings tyok_Sightings nm_Sightings d_Q_forget_39 rfl in_Sightings (by decide) wd_79 rfl (fun _ => rfl) (fun _ => rfl) (fun _ z => by cases z) e21 ?_
    refine g_iload_n (pc := 42) 0 d_Q_forget_42 rfl rfl ?_
    obtain ⟨rfl, rfl⟩ := ret2 hf
    exact g_iret (pc := 43) rfl d_Q_forget_43
  · replace hf := (if_pos c22).symm.trans hf
    refine g_iconst (pc := 18) ((-1) : Int32) d_Q_forget_18 (by decide) ?_
    obtain ⟨rfl, rfl⟩ := ret2 hf
    exact g_iret (pc := 19) rfl d_Q_forget_19
def f_Q_forget (a0 : Nat) (a1 : Int32) (h : mH) : Option (Int32 × mH) := f_Q_forget_0 a0 a1 h
theorem c_Q_forget {sc : Nat × (Nat → Int32)} {a0 : Nat} {a1 : Int32} {h : mH} {r : Int32} {h' : mH} (hf : f_Q_forget a0 a1 h = some (r, h')) : MM sc y_Q_forget prog_1_method_29_code 3 (some .int) 1 22 [.ref a0, .int a1] h (some (.int r)) h' :=
  mm_of_G (by decide) (Nat.le_of_ble_eq_true rfl) (t_Q_forget_0 _ _ _ _ _ hf)
/-! Sightings sumDue (II)I -/
set_option maxRecDepth 100000 in
theorem dd_Sightings_sumDue_0 : (decode prog_7_method_3_code 0 = .ok (.iconst (-1), 1)) ∧ (decode prog_7_method_3_code 1 = .ok (.istore_n 3, 1)) ∧ (decode prog_7_method_3_code 2 = .ok (.iconst 0, 1)) ∧ (decode prog_7_method_3_code 3 = .ok (.istore 4, 2)) ∧ (decode prog_7_method_3_code 5 = .ok (.iload 4, 2)) ∧ (decode prog_7_method_3_code 7 = .ok (.aload_n 0, 1)) ∧ (decode prog_7_method_3_code 8 = .ok (.getfield 21, 3)) ∧ (decode prog_7_method_3_code 11 = .ok (.if_icmp .ge 60, 3)) ∧ (decode prog_7_method_3_code 14 = .ok (.aload_n 0, 1)) ∧ (decode prog_7_method_3_code 15 = .ok (.getfield 9, 3)) ∧ (decode prog_7_method_3_code 18 = .ok (.iload 4, 2)) ∧ (decode prog_7_method_3_code 20 = .ok (.iaload, 1)) ∧ (decode prog_7_method_3_code 21 = .ok (.iload_n 1, 1)) ∧ (decode prog_7_method_3_code 22 = .ok (.if_icmp .ne 43, 3)) ∧ (decode prog_7_method_3_code 25 = .ok (.aload_n 0, 1)) ∧ (decode prog_7_method_3_code 26 = .ok (.getfield 15, 3)) ∧ (decode prog_7_method_3_code 29 = .ok (.iload 4, 2)) ∧ (decode prog_7_method_3_code 31 = .ok (.iaload, 1)) ∧ (decode prog_7_method_3_code 32 = .ok (.iload_n 2, 1)) ∧ (decode prog_7_method_3_code 33 = .ok (.if_icmp .ne 32, 3)) ∧ (decode prog_7_method_3_code 36 = .ok (.iload_n 3, 1)) ∧ (decode prog_7_method_3_code 37 = .ok (.iconst (-1), 1)) ∧ (decode prog_7_method_3_code 38 = .ok (.if_icmp .eq 14, 3)) ∧ (decode prog_7_method_3_code 41 = .ok (.iload_n 3, 1)) := by
  have h : List.drop 0 prog_7_method_3_code.data.toList = 0x02 :: _ := rfl
  refine ⟨zq_k_n 2 h rfl (zq_o_2 _), ?_⟩
  replace h := zq_nx1 (q := 1) h rfl
  refine ⟨zq_k_n 62 h rfl (zq_o_62 _), ?_⟩
  replace h := zq_nx1 (q := 2) h rfl
  refine ⟨zq_k_n 3 h rfl (zq_o_3 _), ?_⟩
  replace h := zq_nx1 (q := 3) h rfl
  refine ⟨zq_k_u1 54 (fun z => .istore z) 4 h rfl (zq_o_54 _) (by decide +kernel), ?_⟩
  replace h := zq_nx2 (q := 5) h rfl
  refine ⟨zq_k_u1 21 (fun z => .iload z) 4 h rfl (zq_o_21 _) (by decide +kernel), ?_⟩
  replace h := zq_nx2 (q := 7) h rfl
  refine ⟨zq_k_n 42 h rfl (zq_o_42 _), ?_⟩
  replace h := zq_nx1 (q := 8) h rfl
  refine ⟨zq_k_u2 180 (fun z => .getfield z) 21 h rfl (zq_o_180 _) (by decide +kernel), ?_⟩
  replace h := zq_nx3 (q := 11) h rfl
  refine ⟨zq_k_s2 162 (fun z => .if_icmp .ge z) 60 h rfl (zq_o_162 _) (by decide +kernel), ?_⟩
  replace h := zq_nx3 (q := 14) h rfl
  refine ⟨zq_k_n 42 h rfl (zq_o_42 _), ?_⟩
  replace h := zq_nx1 (q := 15) h rfl
  refine ⟨zq_k_u2 180 (fun z => .getfield z) 9 h rfl (zq_o_180 _) (by decide +kernel), ?_⟩
  replace h := zq_nx3 (q := 18) h rfl
  refine ⟨zq_k_u1 21 (fun z => .iload z) 4 h rfl (zq_o_21 _) (by decide +kernel), ?_⟩
  replace h := zq_nx2 (q := 20) h rfl
  refine ⟨zq_k_n 46 h rfl (zq_o_46 _), ?_⟩
  replace h := zq_nx1 (q := 21) h rfl
  refine ⟨zq_k_n 27 h rfl (zq_o_27 _), ?_⟩
  replace h := zq_nx1 (q := 22) h rfl
  refine ⟨zq_k_s2 160 (fun z => .if_icmp .ne z) 43 h rfl (zq_o_160 _) (by decide +kernel), ?_⟩
  replace h := zq_nx3 (q := 25) h rfl
  refine ⟨zq_k_n 42 h rfl (zq_o_42 _), ?_⟩
  replace h := zq_nx1 (q := 26) h rfl
  refine ⟨zq_k_u2 180 (fun z => .getfield z) 15 h rfl (zq_o_180 _) (by decide +kernel), ?_⟩
  replace h := zq_nx3 (q := 29) h rfl
  refine ⟨zq_k_u1 21 (fun z => .iload z) 4 h rfl (zq_o_21 _) (by decide +kernel), ?_⟩
  replace h := zq_nx2 (q := 31) h rfl
  refine ⟨zq_k_n 46 h rfl (zq_o_46 _), ?_⟩
  replace h := zq_nx1 (q := 32) h rfl
  refine ⟨zq_k_n 28 h rfl (zq_o_28 _), ?_⟩
  replace h := zq_nx1 (q := 33) h rfl
  refine ⟨zq_k_s2 160 (fun z => .if_icmp .ne z) 32 h rfl (zq_o_160 _) (by decide +kernel), ?_⟩
  replace h := zq_nx3 (q := 36) h rfl
  refine ⟨zq_k_n 29 h rfl (zq_o_29 _), ?_⟩
  replace h := zq_nx1 (q := 37) h rfl
  refine ⟨zq_k_n 2 h rfl (zq_o_2 _), ?_⟩
  replace h := zq_nx1 (q := 38) h rfl
  refine ⟨zq_k_s2 159 (fun z => .if_icmp .eq z) 14 h rfl (zq_o_159 _) (by decide +kernel), ?_⟩
  replace h := zq_nx3 (q := 41) h rfl
  exact zq_k_n 29 h rfl (zq_o_29 _)
theorem d_Sightings_sumDue_0 : decode prog_7_method_3_code 0 = .ok (.iconst (-1), 1) := dd_Sightings_sumDue_0.1
theorem d_Sightings_sumDue_1 : decode prog_7_method_3_code 1 = .ok (.istore_n 3, 1) := dd_Sightings_sumDue_0.2.1
theorem d_Sightings_sumDue_2 : decode prog_7_method_3_code 2 = .ok (.iconst 0, 1) := dd_Sightings_sumDue_0.2.2.1
theorem d_Sightings_sumDue_3 : decode prog_7_method_3_code 3 = .ok (.istore 4, 2) := dd_Sightings_sumDue_0.2.2.2.1
theorem d_Sightings_sumDue_5 : decode prog_7_method_3_code 5 = .ok (.iload 4, 2) := dd_Sightings_sumDue_0.2.2.2.2.1
theorem d_Sightings_sumDue_7 : decode prog_7_method_3_code 7 = .ok (.aload_n 0, 1) := dd_Sightings_sumDue_0.2.2.2.2.2.1
theorem d_Sightings_sumDue_8 : decode prog_7_method_3_code 8 = .ok (.getfield 21, 3) := dd_Sightings_sumDue_0.2.2.2.2.2.2.1
theorem d_Sightings_sumDue_11 : decode prog_7_method_3_code 11 = .ok (.if_icmp .ge 60, 3) := dd_Sightings_sumDue_0.2.2.2.2.2.2.2.1
theorem d_Sightings_sumDue_14 : decode prog_7_method_3_code 14 = .ok (.aload_n 0, 1) := dd_Sightings_sumDue_0.2.2.2.2.2.2.2.2.1
theorem d_Sightings_sumDue_15 : decode prog_7_method_3_code 15 = .ok (.getfield 9, 3) := dd_Sightings_sumDue_0.2.2.2.2.2.2.2.2.2.1
theorem d_Sightings_sumDue_18 : decode prog_7_method_3_code 18 = .ok (.iload 4, 2) := dd_Sightings_sumDue_0.2.2.2.2.2.2.2.2.2.2.1
theorem d_Sightings_sumDue_20 : decode prog_7_method_3_code 20 = .ok (.iaload, 1) := dd_Sightings_sumDue_0.2.2.2.2.2.2.2.2.2.2.2.1
theorem d_Sightings_sumDue_21 : decode prog_7_method_3_code 21 = .ok (.iload_n 1, 1) := dd_Sightings_sumDue_0.2.2.2.2.2.2.2.2.2.2.2.2.1
theorem d_Sightings_sumDue_22 : decode prog_7_method_3_code 22 = .ok (.if_icmp .ne 43, 3) := dd_Sightings_sumDue_0.2.2.2.2.2.2.2.2.2.2.2.2.2.1
theorem d_Sightings_sumDue_25 : decode prog_7_method_3_code 25 = .ok (.aload_n 0, 1) := dd_Sightings_sumDue_0.2.2.2.2.2.2.2.2.2.2.2.2.2.2.1
theorem d_Sightings_sumDue_26 : decode prog_7_method_3_code 26 = .ok (.getfield 15, 3) := dd_Sightings_sumDue_0.2.2.2.2.2.2.2.2.2.2.2.2.2.2.2.1
theorem d_Sightings_sumDue_29 : decode prog_7_method_3_code 29 = .ok (.iload 4, 2) := dd_Sightings_sumDue_0.2.2.2.2.2.2.2.2.2.2.2.2.2.2.2.2.1
theorem d_Sightings_sumDue_31 : decode prog_7_method_3_code 31 = .ok (.iaload, 1) := dd_Sightings_sumDue_0.2.2.2.2.2.2.2.2.2.2.2.2.2.2.2.2.2.1
theorem d_Sightings_sumDue_32 : decode prog_7_method_3_code 32 = .ok (.iload_n 2, 1) := dd_Sightings_sumDue_0.2.2.2.2.2.2.2.2.2.2.2.2.2.2.2.2.2.2.1
theorem d_Sightings_sumDue_33 : decode prog_7_method_3_code 33 = .ok (.if_icmp .ne 32, 3) := dd_Sightings_sumDue_0.2.2.2.2.2.2.2.2.2.2.2.2.2.2.2.2.2.2.2.1
theorem d_Sightings_sumDue_36 : decode prog_7_method_3_code 36 = .ok (.iload_n 3, 1) := dd_Sightings_sumDue_0.2.2.2.2.2.2.2.2.2.2.2.2.2.2.2.2.2.2.2.2.1
theorem d_Sightings_sumDue_37 : decode prog_7_method_3_code 37 = .ok (.iconst (-1), 1) := dd_Sightings_sumDue_0.2.2.2.2.2.2.2.2.2.2.2.2.2.2.2.2.2.2.2.2.2.1
theorem d_Sightings_sumDue_38 : decode prog_7_method_3_code 38 = .ok (.if_icmp .eq 14, 3) := dd_Sightings_sumDue_0.2.2.2.2.2.2.2.2.2.2.2.2.2.2.2.2.2.2.2.2.2.2.1
theorem d_Sightings_sumDue_41 : decode prog_7_method_3_code 41 = .ok (.iload_n 3, 1) := dd_Sightings_sumDue_0.2.2.2.2.2.2.2.2.2.2.2.2.2.2.2.2.2.2.2.2.2.2.2
set_option maxRecDepth 100000 in
theorem dd_Sightings_sumDue_42 : (decode prog_7_method_3_code 42 = .ok (.aload_n 0, 1)) ∧ (decode prog_7_method_3_code 43 = .ok (.getfield 18, 3)) ∧ (decode prog_7_method_3_code 46 = .ok (.iload 4, 2)) ∧ (decode prog_7_method_3_code 48 = .ok (.iaload, 1)) ∧ (decode prog_7_method_3_code 49 = .ok (.if_icmp .ne 13, 3)) ∧ (decode prog_7_method_3_code 52 = .ok (.aload_n 0, 1)) ∧ (decode prog_7_method_3_code 53 = .ok (.getfield 18, 3)) ∧ (decode prog_7_method_3_code 56 = .ok (.iload 4, 2)) ∧ (decode prog_7_method_3_code 58 = .ok (.iaload, 1)) ∧ (decode prog_7_method_3_code 59 = .ok (.goto 5, 3)) ∧ (decode prog_7_method_3_code 62 = .ok (.bipush 99, 2)) ∧ (decode prog_7_method_3_code 64 = .ok (.istore_n 3, 1)) ∧ (decode prog_7_method_3_code 65 = .ok (.iinc 4 1, 3)) ∧ (decode prog_7_method_3_code 68 = .ok (.goto (-63), 3)) ∧ (decode prog_7_method_3_code 71 = .ok (.iload_n 3, 1)) ∧ (decode prog_7_method_3_code 72 = .ok (.ireturn, 1)) := by
  have h : List.drop 42 prog_7_method_3_code.data.toList = 0x2a :: _ := rfl
  refine ⟨zq_k_n 42 h rfl (zq_o_42 _), ?_⟩
  replace h := zq_nx1 (q := 43) h rfl
  refine ⟨zq_k_u2 180 (fun z => .getfield z) 18 h rfl (zq_o_180 _) (by decide +kernel), ?_⟩
  replace h := zq_nx3 (q := 46) h rfl
  refine ⟨zq_k_u1 21 (fun z => .iload z) 4 h rfl (zq_o_21 _) (by decide +kernel), ?_⟩
  replace h := zq_nx2 (q := 48) h rfl
  refine ⟨zq_k_n 46 h rfl (zq_o_46 _), ?_⟩
  replace h := zq_nx1 (q := 49) h rfl
  refine ⟨zq_k_s2 160 (fun z => .if_icmp .ne z) 13 h rfl (zq_o_160 _) (by decide +kernel), ?_⟩
  replace h := zq_nx3 (q := 52) h rfl
  refine ⟨zq_k_n 42 h rfl (zq_o_42 _), ?_⟩
  replace h := zq_nx1 (q := 53) h rfl
  refine ⟨zq_k_u2 180 (fun z => .getfield z) 18 h rfl (zq_o_180 _) (by decide +kernel), ?_⟩
  replace h := zq_nx3 (q := 56) h rfl
  refine ⟨zq_k_u1 21 (fun z => .iload z) 4 h rfl (zq_o_21 _) (by decide +kernel), ?_⟩
  replace h := zq_nx2 (q := 58) h rfl
  refine ⟨zq_k_n 46 h rfl (zq_o_46 _), ?_⟩
  replace h := zq_nx1 (q := 59) h rfl
  refine ⟨zq_k_s2 167 (fun z => .goto z) 5 h rfl (zq_o_167 _) (by decide +kernel), ?_⟩
  replace h := zq_nx3 (q := 62) h rfl
  refine ⟨zq_k_s1 16 (fun z => .bipush z) 99 h rfl (zq_o_16 _) (by decide +kernel), ?_⟩
  replace h := zq_nx2 (q := 64) h rfl
  refine ⟨zq_k_n 62 h rfl (zq_o_62 _), ?_⟩
  replace h := zq_nx1 (q := 65) h rfl
  refine ⟨zq_k_iinc 4 1 h rfl (zq_o_132 _) (by decide +kernel) (by decide +kernel), ?_⟩
  replace h := zq_nx3 (q := 68) h rfl
  refine ⟨zq_k_s2 167 (fun z => .goto z) (-63) h rfl (zq_o_167 _) (by decide +kernel), ?_⟩
  replace h := zq_nx3 (q := 71) h rfl
  refine ⟨zq_k_n 29 h rfl (zq_o_29 _), ?_⟩
  replace h := zq_nx1 (q := 72) h rfl
  exact zq_k_n 172 h rfl (zq_o_172 _)
theorem d_Sightings_sumDue_42 : decode prog_7_method_3_code 42 = .ok (.aload_n 0, 1) := dd_Sightings_sumDue_42.1
theorem d_Sightings_sumDue_43 : decode prog_7_method_3_code 43 = .ok (.getfield 18, 3) := dd_Sightings_sumDue_42.2.1
theorem d_Sightings_sumDue_46 : decode prog_7_method_3_code 46 = .ok (.iload 4, 2) := dd_Sightings_sumDue_42.2.2.1
theorem d_Sightings_sumDue_48 : decode prog_7_method_3_code 48 = .ok (.iaload, 1) := dd_Sightings_sumDue_42.2.2.2.1
theorem d_Sightings_sumDue_49 : decode prog_7_method_3_code 49 = .ok (.if_icmp .ne 13, 3) := dd_Sightings_sumDue_42.2.2.2.2.1
theorem d_Sightings_sumDue_52 : decode prog_7_method_3_code 52 = .ok (.aload_n 0, 1) := dd_Sightings_sumDue_42.2.2.2.2.2.1
theorem d_Sightings_sumDue_53 : decode prog_7_method_3_code 53 = .ok (.getfield 18, 3) := dd_Sightings_sumDue_42.2.2.2.2.2.2.1
theorem d_Sightings_sumDue_56 : decode prog_7_method_3_code 56 = .ok (.iload 4, 2) := dd_Sightings_sumDue_42.2.2.2.2.2.2.2.1
theorem d_Sightings_sumDue_58 : decode prog_7_method_3_code 58 = .ok (.iaload, 1) := dd_Sightings_sumDue_42.2.2.2.2.2.2.2.2.1
theorem d_Sightings_sumDue_59 : decode prog_7_method_3_code 59 = .ok (.goto 5, 3) := dd_Sightings_sumDue_42.2.2.2.2.2.2.2.2.2.1
theorem d_Sightings_sumDue_62 : decode prog_7_method_3_code 62 = .ok (.bipush 99, 2) := dd_Sightings_sumDue_42.2.2.2.2.2.2.2.2.2.2.1
theorem d_Sightings_sumDue_64 : decode prog_7_method_3_code 64 = .ok (.istore_n 3, 1) := dd_Sightings_sumDue_42.2.2.2.2.2.2.2.2.2.2.2.1
theorem d_Sightings_sumDue_65 : decode prog_7_method_3_code 65 = .ok (.iinc 4 1, 3) := dd_Sightings_sumDue_42.2.2.2.2.2.2.2.2.2.2.2.2.1
theorem d_Sightings_sumDue_68 : decode prog_7_method_3_code 68 = .ok (.goto (-63), 3) := dd_Sightings_sumDue_42.2.2.2.2.2.2.2.2.2.2.2.2.2.1
theorem d_Sightings_sumDue_71 : decode prog_7_method_3_code 71 = .ok (.iload_n 3, 1) := dd_Sightings_sumDue_42.2.2.2.2.2.2.2.2.2.2.2.2.2.2.1
theorem d_Sightings_sumDue_72 : decode prog_7_method_3_code 72 = .ok (.ireturn, 1) := dd_Sightings_sumDue_42.2.2.2.2.2.2.2.2.2.2.2.2.2.2.2
def f_Sightings_sumDue_65 (rec5 : Nat → Int32 → Int32 → Int32 → Int32 → mH → Option (Int32 × mH)) (b0 : Nat) (b1 : Int32) (b2 : Int32) (b3 : Int32) (b4 : Int32) (h : mH) : Option (Int32 × mH) :=
  rec5 b0 b1 b2 b3 (b4 + (1 : Int32)) h
set_option maxRecDepth 20000 in
theorem t_Sightings_sumDue_65 {sc : Nat × (Nat → Int32)} (rec5 : Nat → Int32 → Int32 → Int32 → Int32 → mH → Option (Int32 × mH)) (hrec5 : ∀ (b0 : Nat) (b1 : Int32) (b2 : Int32) (b3 : Int32) (b4 : Int32) (h : mH) (r : Int32) (h' : mH), rec5 b0 b1 b2 b3 b4 h = some (r, h') → G sc y_Sightings_sumDue prog_7_method_3_code 5 (some .int) 0 0 5 [(0, .ref b0), (1, .int b1), (2, .int b2), (3, .int b3), (4, .int b4)] [] h (some (.int r)) h') (b0 : Nat) (b1 : Int32) (b2 : Int32) (b3 : Int32) (b4 : Int32) (h : mH) (r : Int32) (h' : mH) (hf : f_Sightings_sumDue_65 rec5 b0 b1 b2 b3 b4 h = some (r, h')) : G sc y_Sightings_sumDue prog_7_method_3_code 5 (some .int) 0 0 65 [(0, .ref b0), (1, .int b1), (2, .int b2), (3, .int b3), (4, .int b4)] [] h (some (.int r)) h' := by
  unfold f_Sightings_sumDue_65 at hf
  refine g_iinc (pc := 65) 4 (b4 + (1 : Int32)) [(4, .int (b4 + (1 : Int32))), (0, .ref b0), (1, .int b1), (2, .int b2), (3, .int b3)] d_Sightings_sumDue_65 rfl rfl (Nat.le_of_ble_eq_true rfl) rfl ?_
  refine g_goto (pc := 68) 5 d_Sightings_sumDue_68 (by decide) ?_
  refine g_lv [1, 2, 3, 4, 0] rfl ?_
  exact hrec5 _ _ _ _ _ _ _ _  hf
def f_Sightings_sumDue_64 (rec5 : Nat → Int32 → Int32 → Int32 → Int32 → mH → Option (Int32 × mH)) (b0 : Nat) (b1 : Int32) (b2 : Int32) (b4 : Int32) (s0 : Int32) (h : mH) : Option (Int32 × mH) :=
  f_Sightings_sumDue_65 rec5 b0 b1 b2 s0 b4 h
set_option maxRecDepth 20000 in
theorem t_Sightings_sumDue_64 {sc : Nat × (Nat → Int32)} (rec5 : Nat → Int32 → Int32 → Int32 → Int32 → mH → Option (Int32 × mH)) (hrec5 : ∀ (b0 : Nat) (b1 : Int32) (b2 : Int32) (b3 : Int32) (b4 : Int32) (h : mH) (r : Int32) (h' : mH), rec5 b0 b1 b2 b3 b4 h = some (r, h') → G sc y_Sightings_sumDue prog_7_method_3_code 5 (some .int) 0 0 5 [(0, .ref b0), (1, .int b1), (2, .int b2), (3, .int b3), (4, .int b4)] [] h (some (.int r)) h') (b0 : Nat) (b1 : Int32) (b2 : Int32) (b4 : Int32) (s0 : Int32) (h : mH) (r : Int32) (h' : mH) (hf : f_Sightings_sumDue_64 rec5 b0 b1 b2 b4 s0 h = some (r, h')) : G sc y_Sightings_sumDue prog_7_method_3_code 5 (some .int) 0 0 64 [(0, .ref b0), (1, .int b1), (2, .int b2), (4, .int b4)] [.int s0] h (some (.int r)) h' := by
  unfold f_Sightings_sumDue_64 at hf
  refine g_istore_n (pc := 64) [(3, .int s0), (0, .ref b0), (1, .int b1), (2, .int b2), (4, .int b4)] d_Sightings_sumDue_64 rfl (Nat.le_of_ble_eq_true rfl) rfl ?_
  refine g_lv [1, 2, 3, 0, 4] rfl ?_
  exact t_Sightings_sumDue_65 rec5 hrec5 _ _ _ _ _ _ _ _  hf
def f_Sightings_sumDue_52 (rec5 : Nat → Int32 → Int32 → Int32 → Int32 → mH → Option (Int32 × mH)) (b0 : Nat) (b1 : Int32) (b2 : Int32) (b4 : Int32) (h : mH) : Option (Int32 × mH) :=
  bd1 (gR h b0 6 3) fun x20 =>
  bd1 (aI h 0 x20 b4) fun x22 =>
  f_Sightings_sumDue_64 rec5 b0 b1 b2 b4 x22 h
set_option maxRecDepth 20000 in
theorem t_Sightings_sumDue_52 {sc : Nat × (Nat → Int32)} (rec5 : Nat → Int32 → Int32 → Int32 → Int32 → mH → Option (Int32 × mH)) (hrec5 : ∀ (b0 : Nat) (b1 : Int32) (b2 : Int32) (b3 : Int32) (b4 : Int32) (h : mH) (r : Int32) (h' : mH), rec5 b0 b1 b2 b3 b4 h = some (r, h') → G sc y_Sightings_sumDue prog_7_method_3_code 5 (some .int) 0 0 5 [(0, .ref b0), (1, .int b1), (2, .int b2), (3, .int b3), (4, .int b4)] [] h (some (.int r)) h') (b0 : Nat) (b1 : Int32) (b2 : Int32) (b4 : Int32) (h : mH) (r : Int32) (h' : mH) (hf : f_Sightings_sumDue_52 rec5 b0 b1 b2 b4 h = some (r, h')) : G sc y_Sightings_sumDue prog_7_method_3_code 5 (some .int) 0 0 52 [(0, .ref b0), (1, .int b1), (2, .int b2), (4, .int b4)] [] h (some (.int r)) h' := by
  unfold f_Sightings_sumDue_52 at hf
  refine g_aload_n (pc := 52) 0 d_Sightings_sumDue_52 rfl rfl ?_
  obtain ⟨x20, e21, hf⟩ := bd1_e hf
  refine g_get (pc := 53) (ci := 6) (kk := 3) d_Sightings_sumDue_53 rfl in_Sightings (by decide) wd_82 (gR_spec e21) ?_
  refine g_iload (pc := 56) 3 d_Sightings_sumDue_56 rfl ?_
  obtain ⟨x22, e23, hf⟩ := bd1_e hf
  refine g_iald (pc := 58) d_Sightings_sumDue_58 e23 ?_
  refine g_goto (pc := 59) 64 d_Sightings_sumDue_59 (by decide) ?_
  refine g_lv [0, 1, 2, 3] rfl ?_
  exact t_Sightings_sumDue_64 rec5 hrec5 _ _ _ _ _ _ _ _  hf
def f_Sightings_sumDue_5b (rec5 : Nat → Int32 → Int32 → Int32 → Int32 → mH → Option (Int32 × mH)) (b0 : Nat) (b1 : Int32) (b2 : Int32) (b3 : Int32) (b4 : Int32) (h : mH) : Option (Int32 × mH) :=
  bd1 (gI h b0 6 0) fun x1 =>
  if x1 ≤ b4 then
    some (b3, h)
  else
    bd1 (gR h b0 6 1) fun x3 =>
    bd1 (aI h 0 x3 b4) fun x5 =>
    if x5 = b1 then
      bd1 (gR h b0 6 2) fun x7 =>
      bd1 (aI h 0 x7 b4) fun x9 =>
      if x9 = b2 then
        if b3 = ((-1) : Int32) then
          f_Sightings_sumDue_52 rec5 b0 b1 b2 b4 h
        else
          bd1 (gR h b0 6 3) fun x11 =>
          bd1 (aI h 0 x11 b4) fun x13 =>
          if b3 = x13 then
            f_Sightings_sumDue_52 rec5 b0 b1 b2 b4 h
          else
            f_Sightings_sumDue_64 rec5 b0 b1 b2 b4 (99 : Int32) h
      else
        f_Sightings_sumDue_65 rec5 b0 b1 b2 b3 b4 h
    else
      f_Sightings_sumDue_65 rec5 b0 b1 b2 b3 b4 h
set_option maxRecDepth 20000 in
theorem t_Sightings_sumDue_5b {sc : Nat × (Nat → Int32)} (rec5 : Nat → Int32 → Int32 → Int32 → Int32 → mH → Option (Int32 × mH)) (hrec5 : ∀ (b0 : Nat) (b1 : Int32) (b2 : Int32) (b3 : Int32) (b4 : Int32) (h : mH) (r : Int32) (h' : mH), rec5 b0 b1 b2 b3 b4 h = some (r, h') → G sc y_Sightings_sumDue prog_7_method_3_code 5 (some .int) 0 0 5 [(0, .ref b0), (1, .int b1), (2, .int b2), (3, .int b3), (4, .int b4)] [] h (some (.int r)) h') (b0 : Nat) (b1 : Int32) (b2 : Int32) (b3 : Int32) (b4 : Int32) (h : mH) (r : Int32) (h' : mH) (hf : f_Sightings_sumDue_5b rec5 b0 b1 b2 b3 b4 h = some (r, h')) : G sc y_Sightings_sumDue prog_7_method_3_code 5 (some .int) 0 0 5 [(0, .ref b0), (1, .int b1), (2, .int b2), (3, .int b3), (4, .int b4)] [] h (some (.int r)) h' := by
  unfold f_Sightings_sumDue_5b at hf
  refine g_iload (pc := 5) 4 d_Sightings_sumDue_5 rfl ?_
  refine g_aload_n (pc := 7) 0 d_Sightings_sumDue_7 rfl rfl ?_
  obtain ⟨x1, e2, hf⟩ := bd1_e hf
  refine g_get (pc := 8) (ci := 6) (kk := 0) d_Sightings_sumDue_8 rfl in_Sightings (by decide) wd_77 (gI_spec e2) ?_
  refine g_icmpge (pc := 11) 71 d_Sightings_sumDue_11 (by decide) (fun c19 => ?_) (fun c19 => ?_)
  · replace hf := (if_pos c19).symm.trans hf
    refine g_iload_n (pc := 71) 3 d_Sightings_sumDue_71 rfl rfl ?_
    obtain ⟨rfl, rfl⟩ := ret2 hf
    exact g_iret (pc := 72) rfl d_Sightings_sumDue_72
  · replace hf := (if_neg c19).symm.trans hf
    refine g_aload_n (pc := 14) 0 d_Sightings_sumDue_14 rfl rfl ?_
    obtain ⟨x3, e4, hf⟩ := bd1_e hf
    refine g_get (pc := 15) (ci := 6) (kk := 1) d_Sightings_sumDue_15 rfl in_Sightings (by decide) wd_80 (gR_spec e4) ?_
    refine g_iload (pc := 18) 4 d_Sightings_sumDue_18 rfl ?_
    obtain ⟨x5, e6, hf⟩ := bd1_e hf
    refine g_iald (pc := 20) d_Sightings_sumDue_20 e6 ?_
    refine g_iload_n (pc := 21) 1 d_Sightings_sumDue_21 rfl rfl ?_
    refine g_icmpne (pc := 22) 65 d_Sightings_sumDue_22 (by decide) (fun c18 => ?_) (fun c18 => ?_)
    · replace hf := (if_neg c18).symm.trans hf
      refine g_lv [0, 1, 2, 3, 4] rfl ?_
      exact t_Sightings_sumDue_65 rec5 hrec5 _ _ _ _ _ _ _ _  hf
    · replace hf := (if_pos c18).symm.trans hf
      refine g_aload_n (pc := 25) 0 d_Sightings_sumDue_25 rfl rfl ?_
      obtain ⟨x7, e8, hf⟩ := bd1_e hf
      refine g_get (pc := 26) (ci := 6) (kk := 2) d_Sightings_sumDue_26 rfl in_Sightings (by decide) wd_81 (gR_spec e8) ?_
      refine g_iload (pc := 29) 4 d_Sightings_sumDue_29 rfl ?_
      obtain ⟨x9, e10, hf⟩ := bd1_e hf
      refine g_iald (pc := 31) d_Sightings_sumDue_31 e10 ?_
      refine g_iload_n (pc := 32) 2 d_Sightings_sumDue_32 rfl rfl ?_
      refine g_icmpne (pc := 33) 65 d_Sightings_sumDue_33 (by decide) (fun c17 => ?_) (fun c17 => ?_)
      · replace hf := (if_neg c17).symm.trans hf
        refine g_lv [0, 1, 2, 3, 4] rfl ?_
        exact t_Sightings_sumDue_65 rec5 hrec5 _ _ _ _ _ _ _ _  hf
      · replace hf := (if_pos c17).symm.trans hf
        refine g_iload_n (pc := 36) 3 d_Sightings_sumDue_36 rfl rfl ?_
        refine g_iconst (pc := 37) ((-1) : Int32) d_Sightings_sumDue_37 (by decide) ?_
        refine g_icmpeq (pc := 38) 52 d_Sightings_sumDue_38 (by decide) (fun c16 => ?_) (fun c16 => ?_)
        · replace hf := (if_pos c16).symm.trans hf
          refine g_lv [0, 1, 2, 4] rfl ?_
          exact t_Sightings_sumDue_52 rec5 hrec5 _ _ _ _ _ _ _  hf
        · replace hf := (if_neg c16).symm.trans hf
          refine g_iload_n (pc := 41) 3 d_Sightings_sumDue_41 rfl rfl ?_
          refine g_aload_n (pc := 42) 0 d_Sightings_sumDue_42 rfl rfl ?_
          obtain ⟨x11, e12, hf⟩ := bd1_e hf
          refine g_get (pc := 43) (ci := 6) (kk := 3) d_Sightings_sumDue_43 rfl in_Sightings (by decide) wd_82 (gR_spec e12) ?_
          refine g_iload (pc := 46) 4 d_Sightings_sumDue_46 rfl ?_
          obtain ⟨x13, e14, hf⟩ := bd1_e hf
          refine g_iald (pc := 48) d_Sightings_sumDue_48 e14 ?_
          refine g_icmpne (pc := 49) 62 d_Sightings_sumDue_49 (by decide) (fun c15 => ?_) (fun c15 => ?_)
          · replace hf := (if_neg c15).symm.trans hf
            refine g_bipush (pc := 62) (99 : Int32) d_Sightings_sumDue_62 (by decide) ?_
            refine g_lv [0, 1, 2, 4] rfl ?_
            exact t_Sightings_sumDue_64 rec5 hrec5 _ _ _ _ _ _ _ _  hf
          · replace hf := (if_pos c15).symm.trans hf
            refine g_lv [0, 1, 2, 4] rfl ?_
            exact t_Sightings_sumDue_52 rec5 hrec5 _ _ _ _ _ _ _  hf
def f_Sightings_sumDue_5  : Nat → Nat → Int32 → Int32 → Int32 → Int32 → mH → Option (Int32 × mH)
  | 0 => fun _ _ _ _ _ _ => none
  | n + 1 => f_Sightings_sumDue_5b  (f_Sightings_sumDue_5  n)
theorem t_Sightings_sumDue_5 {sc : Nat × (Nat → Int32)}  : ∀ (n : Nat) (b0 : Nat) (b1 : Int32) (b2 : Int32) (b3 : Int32) (b4 : Int32) (h : mH) (r : Int32) (h' : mH) (hf : f_Sightings_sumDue_5  n b0 b1 b2 b3 b4 h = some (r, h')), G sc y_Sightings_sumDue prog_7_method_3_code 5 (some .int) 0 0 5 [(0, .ref b0), (1, .int b1), (2, .int b2), (3, .int b3), (4, .int b4)] [] h (some (.int r)) h'
  | 0, _, _, _, _, _, _, _, _, hf => by cases hf
  | n + 1, _, _, _, _, _, _, _, _, hf => t_Sightings_sumDue_5b  (f_Sightings_sumDue_5  n) (t_Sightings_sumDue_5  n) _ _ _ _ _ _ _ _ hf
def f_Sightings_sumDue_0  (a0 : Nat) (a1 : Int32) (a2 : Int32) (h : mH) : Option (Int32 × mH) :=
  f_Sightings_sumDue_5  FU a0 a1 a2 ((-1) : Int32) (0 : Int32) h
set_option maxRecDepth 20000 in
theorem t_Sightings_sumDue_0 {sc : Nat × (Nat → Int32)}  (a0 : Nat) (a1 : Int32) (a2 : Int32) (h : mH) (r : Int32) (h' : mH) (hf : f_Sightings_sumDue_0  a0 a1 a2 h = some (r, h')) : G sc y_Sightings_sumDue prog_7_method_3_code 5 (some .int) 0 0 0 [(0, .ref a0), (1, .int a1), (2, .int a2)] [] h (some (.int r)) h' := by
  unfold f_Sightings_sumDue_0 at hf
  refine g_iconst (pc := 0) ((-1) : Int32) d_Sightings_sumDue_0 (by decide) ?_
  refine g_istore_n (pc := 1) [(3, .int ((-1) : Int32)), (0, .ref a0), (1, .int a1), (2, .int a2)] d_Sightings_sumDue_1 rfl (Nat.le_of_ble_eq_true rfl) rfl ?_
  refine g_iconst (pc := 2) (0 : Int32) d_Sightings_sumDue_2 (by decide) ?_
  refine g_istore (pc := 3) [(4, .int (0 : Int32)), (3, .int ((-1) : Int32)), (0, .ref a0), (1, .int a1), (2, .int a2)] d_Sightings_sumDue_3 (Nat.le_of_ble_eq_true rfl) rfl ?_
  refine g_lv [2, 3, 4, 1, 0] rfl ?_
  exact t_Sightings_sumDue_5  FU _ _ _ _ _ _ _ _  hf
def f_Sightings_sumDue (a0 : Nat) (a1 : Int32) (a2 : Int32) (h : mH) : Option (Int32 × mH) := f_Sightings_sumDue_0 a0 a1 a2 h
theorem c_Sightings_sumDue {sc : Nat × (Nat → Int32)} {a0 : Nat} {a1 : Int32} {a2 : Int32} {h : mH} {r : Int32} {h' : mH} (hf : f_Sightings_sumDue a0 a1 a2 h = some (r, h')) : MM sc y_Sightings_sumDue prog_7_method_3_code 5 (some .int) 0 0 [.ref a0, .int a1, .int a2] h (some (.int r)) h' :=
  mm_of_G (by decide) (Nat.le_of_ble_eq_true rfl) (t_Sightings_sumDue_0 _ _ _ _ _ _ hf)
/-! Tables load (LQuotaLaws$Realm;)V -/
set_option maxRecDepth 100000 in
theorem dd_Tables_load_0 : (decode prog_8_method_2_code 0 = .ok (.aload_n 0, 1)) ∧ (decode prog_8_method_2_code 1 = .ok (.aload_n 1, 1)) ∧ (decode prog_8_method_2_code 2 = .ok (.getfield 34, 3)) ∧ (decode prog_8_method_2_code 5 = .ok (.putfield 40, 3)) ∧ (decode prog_8_method_2_code 8 = .ok (.aload_n 0, 1)) ∧ (decode prog_8_method_2_code 9 = .ok (.getfield 9, 3)) ∧ (decode prog_8_method_2_code 12 = .ok (.iconst 0, 1)) ∧ (decode prog_8_method_2_code 13 = .ok (.invokestatic 41, 3)) ∧ (decode prog_8_method_2_code 16 = .ok (.aload_n 0, 1)) ∧ (decode prog_8_method_2_code 17 = .ok (.getfield 15, 3)) ∧ (decode prog_8_method_2_code 20 = .ok (.iconst 0, 1)) ∧ (decode prog_8_method_2_code 21 = .ok (.invokestatic 41, 3)) ∧ (decode prog_8_method_2_code 24 = .ok (.iconst 0, 1)) ∧ (decode prog_8_method_2_code 25 = .ok (.istore_n 2, 1)) ∧ (decode prog_8_method_2_code 26 = .ok (.iload_n 2, 1)) ∧ (decode prog_8_method_2_code 27 = .ok (.aload_n 0, 1)) ∧ (decode prog_8_method_2_code 28 = .ok (.getfield 40, 3)) ∧ (decode prog_8_method_2_code 31 = .ok (.if_icmp .ge 24, 3)) ∧ (decode prog_8_method_2_code 34 = .ok (.aload_n 0, 1)) ∧ (decode prog_8_method_2_code 35 = .ok (.getfield 18, 3)) ∧ (decode prog_8_method_2_code 38 = .ok (.iload_n 2, 1)) ∧ (decode prog_8_method_2_code 39 = .ok (.aload_n 1, 1)) ∧ (decode prog_8_method_2_code 40 = .ok (.getfield 47, 3)) ∧ (decode prog_8_method_2_code 43 = .ok (.iconst 1, 1)) := by
  have h : List.drop 0 prog_8_method_2_code.data.toList = 0x2a :: _ := rfl
  refine ⟨zq_k_n 42 h rfl (zq_o_42 _), ?_⟩
  replace h := zq_nx1 (q := 1) h rfl
  refine ⟨zq_k_n 43 h rfl (zq_o_43 _), ?_⟩
  replace h := zq_nx1 (q := 2) h rfl
  refine ⟨zq_k_u2 180 (fun z => .getfield z) 34 h rfl (zq_o_180 _) (by decide +kernel), ?_⟩
  replace h := zq_nx3 (q := 5) h rfl
  refine ⟨zq_k_u2 181 (fun z => .putfield z) 40 h rfl (zq_o_181 _) (by decide +kernel), ?_⟩
  replace h := zq_nx3 (q := 8) h rfl
  refine ⟨zq_k_n 42 h rfl (zq_o_42 _), ?_⟩
  replace h := zq_nx1 (q := 9) h rfl
  refine ⟨zq_k_u2 180 (fun z => .getfield z) 9 h rfl (zq_o_180 _) (by decide +kernel), ?_⟩
  replace h := zq_nx3 (q := 12) h rfl
  refine ⟨zq_k_n 3 h rfl (zq_o_3 _), ?_⟩
  replace h := zq_nx1 (q := 13) h rfl
  refine ⟨zq_k_u2 184 (fun z => .invokestatic z) 41 h rfl (zq_o_184 _) (by decide +kernel), ?_⟩
  replace h := zq_nx3 (q := 16) h rfl
  refine ⟨zq_k_n 42 h rfl (zq_o_42 _), ?_⟩
  replace h := zq_nx1 (q := 17) h rfl
  refine ⟨zq_k_u2 180 (fun z => .getfield z) 15 h rfl (zq_o_180 _) (by decide +kernel), ?_⟩
  replace h := zq_nx3 (q := 20) h rfl
  refine ⟨zq_k_n 3 h rfl (zq_o_3 _), ?_⟩
  replace h := zq_nx1 (q := 21) h rfl
  refine ⟨zq_k_u2 184 (fun z => .invokestatic z) 41 h rfl (zq_o_184 _) (by decide +kernel), ?_⟩
  replace h := zq_nx3 (q := 24) h rfl
  refine ⟨zq_k_n 3 h rfl (zq_o_3 _), ?_⟩
  replace h := zq_nx1 (q := 25) h rfl
  refine ⟨zq_k_n 61 h rfl (zq_o_61 _), ?_⟩
  replace h := zq_nx1 (q := 26) h rfl
  refine ⟨zq_k_n 28 h rfl (zq_o_28 _), ?_⟩
  replace h := zq_nx1 (q := 27) h rfl
  refine ⟨zq_k_n 42 h rfl (zq_o_42 _), ?_⟩
  replace h := zq_nx1 (q := 28) h rfl
  refine ⟨zq_k_u2 180 (fun z => .getfield z) 40 h rfl (zq_o_180 _) (by decide +kernel), ?_⟩
  replace h := zq_nx3 (q := 31) h rfl
  refine ⟨zq_k_s2 162 (fun z => .if_icmp .ge z) 24 h rfl (zq_o_162 _) (by decide +kernel), ?_⟩
  replace h := zq_nx3 (q := 34) h rfl
  refine ⟨zq_k_n 42 h rfl (zq_o_42 _), ?_⟩
  replace h := zq_nx1 (q := 35) h rfl
  refine ⟨zq_k_u2 180 (fun z => .getfield z) 18 h rfl (zq_o_180 _) (by decide +kernel), ?_⟩
  replace h := zq_nx3 (q := 38) h rfl
  refine ⟨zq_k_n 28 h rfl (zq_o_28 _), ?_⟩
  replace h := zq_nx1 (q := 39) h rfl
  refine ⟨zq_k_n 43 h rfl (zq_o_43 _), ?_⟩
  replace h := zq_nx1 (q := 40) h rfl
  refine ⟨zq_k_u2 180 (fun z => .getfield z) 47 h rfl (zq_o_180 _) (by decide +kernel), ?_⟩
  replace h := zq_nx3 (q := 43) h rfl
  exact zq_k_n 4 h rfl (zq_o_4 _)
theorem d_Tables_load_0 : decode prog_8_method_2_code 0 = .ok (.aload_n 0, 1) := dd_Tables_load_0.1
theorem d_Tables_load_1 : decode prog_8_method_2_code 1 = .ok (.aload_n 1, 1) := dd_Tables_load_0.2.1
theorem d_Tables_load_2 : decode prog_8_method_2_code 2 = .ok (.getfield 34, 3) := dd_Tables_load_0.2.2.1
theorem d_Tables_load_5 : decode prog_8_method_2_code 5 = .ok (.putfield 40, 3) := dd_Tables_load_0.2.2.2.1
theorem d_Tables_load_8 : decode prog_8_method_2_code 8 = .ok (.aload_n 0, 1) := dd_Tables_load_0.2.2.2.2.1
theorem d_Tables_load_9 : decode prog_8_method_2_code 9 = .ok (.getfield 9, 3) := dd_Tables_load_0.2.2.2.2.2.1
theorem d_Tables_load_12 : decode prog_8_method_2_code 12 = .ok (.iconst 0, 1) := dd_Tables_load_0.2.2.2.2.2.2.1
theorem d_Tables_load_13 : decode prog_8_method_2_code 13 = .ok (.invokestatic 41, 3) := dd_Tables_load_0.2.2.2.2.2.2.2.1
theorem d_Tables_load_16 : decode prog_8_method_2_code 16 = .ok (.aload_n 0, 1) := dd_Tables_load_0.2.2.2.2.2.2.2.2.1
theorem d_Tables_load_17 : decode prog_8_method_2_code 17 = .ok (.getfield 15, 3) := dd_Tables_load_0.2.2.2.2.2.2.2.2.2.1
theorem d_Tables_load_20 : decode prog_8_method_2_code 20 = .ok (.iconst 0, 1) := dd_Tables_load_0.2.2.2.2.2.2.2.2.2.2.1
theorem d_Tables_load_21 : decode prog_8_method_2_code 21 = .ok (.invokestatic 41, 3) := dd_Tables_load_0.2.2.2.2.2.2.2.2.2.2.2.1
theorem d_Tables_load_24 : decode prog_8_method_2_code 24 = .ok (.iconst 0, 1) := dd_Tables_load_0.2.2.2.2.2.2.2.2.2.2.2.2.1
theorem d_Tables_load_25 : decode prog_8_method_2_code 25 = .ok (.istore_n 2, 1) := dd_Tables_load_0.2.2.2.2.2.2.2.2.2.2.2.2.2.1
theorem d_Tables_load_26 : decode prog_8_method_2_code 26 = .ok (.iload_n 2, 1) := dd_Tables_load_0.2.2.2.2.2.2.2.2.2.2.2.2.2.2.1
theorem d_Tables_load_27 : decode prog_8_method_2_code 27 = .ok (.aload_n 0, 1) := dd_Tables_load_0.2.2.2.2.2.2.2.2.2.2.2.2.2.2.2.1
theorem d_Tables_load_28 : decode prog_8_method_2_code 28 = .ok (.getfield 40, 3) := dd_Tables_load_0.2.2.2.2.2.2.2.2.2.2.2.2.2.2.2.2.1
theorem d_Tables_load_31 : decode prog_8_method_2_code 31 = .ok (.if_icmp .ge 24, 3) := dd_Tables_load_0.2.2.2.2.2.2.2.2.2.2.2.2.2.2.2.2.2.1
theorem d_Tables_load_34 : decode prog_8_method_2_code 34 = .ok (.aload_n 0, 1) := dd_Tables_load_0.2.2.2.2.2.2.2.2.2.2.2.2.2.2.2.2.2.2.1
theorem d_Tables_load_35 : decode prog_8_method_2_code 35 = .ok (.getfield 18, 3) := dd_Tables_load_0.2.2.2.2.2.2.2.2.2.2.2.2.2.2.2.2.2.2.2.1
theorem d_Tables_load_38 : decode prog_8_method_2_code 38 = .ok (.iload_n 2, 1) := dd_Tables_load_0.2.2.2.2.2.2.2.2.2.2.2.2.2.2.2.2.2.2.2.2.1
theorem d_Tables_load_39 : decode prog_8_method_2_code 39 = .ok (.aload_n 1, 1) := dd_Tables_load_0.2.2.2.2.2.2.2.2.2.2.2.2.2.2.2.2.2.2.2.2.2.1
theorem d_Tables_load_40 : decode prog_8_method_2_code 40 = .ok (.getfield 47, 3) := dd_Tables_load_0.2.2.2.2.2.2.2.2.2.2.2.2.2.2.2.2.2.2.2.2.2.2.1
theorem d_Tables_load_43 : decode prog_8_method_2_code 43 = .ok (.iconst 1, 1) := dd_Tables_load_0.2.2.2.2.2.2.2.2.2.2.2.2.2.2.2.2.2.2.2.2.2.2.2
set_option maxRecDepth 100000 in
theorem dd_Tables_load_44 : (decode prog_8_method_2_code 44 = .ok (.iload_n 2, 1)) ∧ (decode prog_8_method_2_code 45 = .ok (.invokevirtual 53, 3)) ∧ (decode prog_8_method_2_code 48 = .ok (.iastore, 1)) ∧ (decode prog_8_method_2_code 49 = .ok (.iinc 2 1, 3)) ∧ (decode prog_8_method_2_code 52 = .ok (.goto (-26), 3)) ∧ (decode prog_8_method_2_code 55 = .ok (.iconst 0, 1)) ∧ (decode prog_8_method_2_code 56 = .ok (.istore_n 2, 1)) ∧ (decode prog_8_method_2_code 57 = .ok (.iload_n 2, 1)) ∧ (decode prog_8_method_2_code 58 = .ok (.iconst 3, 1)) ∧ (decode prog_8_method_2_code 59 = .ok (.if_icmp .ge 128, 3)) ∧ (decode prog_8_method_2_code 62 = .ok (.aload_n 1, 1)) ∧ (decode prog_8_method_2_code 63 = .ok (.iload_n 2, 1)) ∧ (decode prog_8_method_2_code 64 = .ok (.invokevirtual 57, 3)) ∧ (decode prog_8_method_2_code 67 = .ok (.istore_n 3, 1)) ∧ (decode prog_8_method_2_code 68 = .ok (.aload_n 0, 1)) ∧ (decode prog_8_method_2_code 69 = .ok (.getfield 21, 3)) ∧ (decode prog_8_method_2_code 72 = .ok (.iload_n 2, 1)) ∧ (decode prog_8_method_2_code 73 = .ok (.iload_n 3, 1)) ∧ (decode prog_8_method_2_code 74 = .ok (.ifCond .eq 15, 3)) ∧ (decode prog_8_method_2_code 77 = .ok (.aload_n 1, 1)) ∧ (decode prog_8_method_2_code 78 = .ok (.getfield 47, 3)) ∧ (decode prog_8_method_2_code 81 = .ok (.iconst 0, 1)) ∧ (decode prog_8_method_2_code 82 = .ok (.iload_n 2, 1)) ∧ (decode prog_8_method_2_code 83 = .ok (.invokevirtual 53, 3)) := by
  have h : List.drop 44 prog_8_method_2_code.data.toList = 0x1c :: _ := rfl
  refine ⟨zq_k_n 28 h rfl (zq_o_28 _), ?_⟩
  replace h := zq_nx1 (q := 45) h rfl
  refine ⟨zq_k_u2 182 (fun z => .invokevirtual z) 53 h rfl (zq_o_182 _) (by decide +kernel), ?_⟩
  replace h := zq_nx3 (q := 48) h rfl
  refine ⟨zq_k_n 79 h rfl (zq_o_79 _), ?_⟩
  replace h := zq_nx1 (q := 49) h rfl
  refine ⟨zq_k_iinc 2 1 h rfl (zq_o_132 _) (by decide +kernel) (by decide +kernel), ?_⟩
  replace h := zq_nx3 (q := 52) h rfl
  refine ⟨zq_k_s2 167 (fun z => .goto z) (-26) h rfl (zq_o_167 _) (by decide +kernel), ?_⟩
  replace h := zq_nx3 (q := 55) h rfl
  refine ⟨zq_k_n 3 h rfl (zq_o_3 _), ?_⟩
  replace h := zq_nx1 (q := 56) h rfl
  refine ⟨zq_k_n 61 h rfl (zq_o_61 _), ?_⟩
  replace h := zq_nx1 (q := 57) h rfl
  refine ⟨zq_k_n 28 h rfl (zq_o_28 _), ?_⟩
  replace h := zq_nx1 (q := 58) h rfl
  refine ⟨zq_k_n 6 h rfl (zq_o_6 _), ?_⟩
  replace h := zq_nx1 (q := 59) h rfl
  refine ⟨zq_k_s2 162 (fun z => .if_icmp .ge z) 128 h rfl (zq_o_162 _) (by decide +kernel), ?_⟩
  replace h := zq_nx3 (q := 62) h rfl
  refine ⟨zq_k_n 43 h rfl (zq_o_43 _), ?_⟩
  replace h := zq_nx1 (q := 63) h rfl
  refine ⟨zq_k_n 28 h rfl (zq_o_28 _), ?_⟩
  replace h := zq_nx1 (q := 64) h rfl
  refine ⟨zq_k_u2 182 (fun z => .invokevirtual z) 57 h rfl (zq_o_182 _) (by decide +kernel), ?_⟩
  replace h := zq_nx3 (q := 67) h rfl
  refine ⟨zq_k_n 62 h rfl (zq_o_62 _), ?_⟩
  replace h := zq_nx1 (q := 68) h rfl
  refine ⟨zq_k_n 42 h rfl (zq_o_42 _), ?_⟩
  replace h := zq_nx1 (q := 69) h rfl
  refine ⟨zq_k_u2 180 (fun z => .getfield z) 21 h rfl (zq_o_180 _) (by decide +kernel), ?_⟩
  replace h := zq_nx3 (q := 72) h rfl
  refine ⟨zq_k_n 28 h rfl (zq_o_28 _), ?_⟩
  replace h := zq_nx1 (q := 73) h rfl
  refine ⟨zq_k_n 29 h rfl (zq_o_29 _), ?_⟩
  replace h := zq_nx1 (q := 74) h rfl
  refine ⟨zq_k_s2 153 (fun z => .ifCond .eq z) 15 h rfl (zq_o_153 _) (by decide +kernel), ?_⟩
  replace h := zq_nx3 (q := 77) h rfl
  refine ⟨zq_k_n 43 h rfl (zq_o_43 _), ?_⟩
  replace h := zq_nx1 (q := 78) h rfl
  refine ⟨zq_k_u2 180 (fun z => .getfield z) 47 h rfl (zq_o_180 _) (by decide +kernel), ?_⟩
  replace h := zq_nx3 (q := 81) h rfl
  refine ⟨zq_k_n 3 h rfl (zq_o_3 _), ?_⟩
  replace h := zq_nx1 (q := 82) h rfl
  refine ⟨zq_k_n 28 h rfl (zq_o_28 _), ?_⟩
  replace h := zq_nx1 (q := 83) h rfl
  exact zq_k_u2 182 (fun z => .invokevirtual z) 53 h rfl (zq_o_182 _) (by decide +kernel)
theorem d_Tables_load_44 : decode prog_8_method_2_code 44 = .ok (.iload_n 2, 1) := dd_Tables_load_44.1
theorem d_Tables_load_45 : decode prog_8_method_2_code 45 = .ok (.invokevirtual 53, 3) := dd_Tables_load_44.2.1
theorem d_Tables_load_48 : decode prog_8_method_2_code 48 = .ok (.iastore, 1) := dd_Tables_load_44.2.2.1
theorem d_Tables_load_49 : decode prog_8_method_2_code 49 = .ok (.iinc 2 1, 3) := dd_Tables_load_44.2.2.2.1
theorem d_Tables_load_52 : decode prog_8_method_2_code 52 = .ok (.goto (-26), 3) := dd_Tables_load_44.2.2.2.2.1
theorem d_Tables_load_55 : decode prog_8_method_2_code 55 = .ok (.iconst 0, 1) := dd_Tables_load_44.2.2.2.2.2.1
theorem d_Tables_load_56 : decode prog_8_method_2_code 56 = .ok (.istore_n 2, 1) := dd_Tables_load_44.2.2.2.2.2.2.1
theorem d_Tables_load_57 : decode prog_8_method_2_code 57 = .ok (.iload_n 2, 1) := dd_Tables_load_44.2.2.2.2.2.2.2.1
theorem d_Tables_load_58 : decode prog_8_method_2_code 58 = .ok (.iconst 3, 1) := dd_Tables_load_44.2.2.2.2.2.2.2.2.1
theorem d_Tables_load_59 : decode prog_8_method_2_code 59 = .ok (.if_icmp .ge 128, 3) := dd_Tables_load_44.2.2.2.2.2.2.2.2.2.1
theorem d_Tables_load_62 : decode prog_8_method_2_code 62 = .ok (.aload_n 1, 1) := dd_Tables_load_44.2.2.2.2.2.2.2.2.2.2.1
theorem d_Tables_load_63 : decode prog_8_method_2_code 63 = .ok (.iload_n 2, 1) := dd_Tables_load_44.2.2.2.2.2.2.2.2.2.2.2.1
theorem d_Tables_load_64 : decode prog_8_method_2_code 64 = .ok (.invokevirtual 57, 3) := dd_Tables_load_44.2.2.2.2.2.2.2.2.2.2.2.2.1
theorem d_Tables_load_67 : decode prog_8_method_2_code 67 = .ok (.istore_n 3, 1) := dd_Tables_load_44.2.2.2.2.2.2.2.2.2.2.2.2.2.1
theorem d_Tables_load_68 : decode prog_8_method_2_code 68 = .ok (.aload_n 0, 1) := dd_Tables_load_44.2.2.2.2.2.2.2.2.2.2.2.2.2.2.1
theorem d_Tables_load_69 : decode prog_8_method_2_code 69 = .ok (.getfield 21, 3) := dd_Tables_load_44.2.2.2.2.2.2.2.2.2.2.2.2.2.2.2.1
theorem d_Tables_load_72 : decode prog_8_method_2_code 72 = .ok (.iload_n 2, 1) := dd_Tables_load_44.2.2.2.2.2.2.2.2.2.2.2.2.2.2.2.2.1
theorem d_Tables_load_73 : decode prog_8_method_2_code 73 = .ok (.iload_n 3, 1) := dd_Tables_load_44.2.2.2.2.2.2.2.2.2.2.2.2.2.2.2.2.2.1
theorem d_Tables_load_74 : decode prog_8_method_2_code 74 = .ok (.ifCond .eq 15, 3) := dd_Tables_load_44.2.2.2.2.2.2.2.2.2.2.2.2.2.2.2.2.2.2.1
theorem d_Tables_load_77 : decode prog_8_method_2_code 77 = .ok (.aload_n 1, 1) := dd_Tables_load_44.2.2.2.2.2.2.2.2.2.2.2.2.2.2.2.2.2.2.2.1
theorem d_Tables_load_78 : decode prog_8_method_2_code 78 = .ok (.getfield 47, 3) := dd_Tables_load_44.2.2.2.2.2.2.2.2.2.2.2.2.2.2.2.2.2.2.2.2.1
theorem d_Tables_load_81 : decode prog_8_method_2_code 81 = .ok (.iconst 0, 1) := dd_Tables_load_44.2.2.2.2.2.2.2.2.2.2.2.2.2.2.2.2.2.2.2.2.2.1
theorem d_Tables_load_82 : decode prog_8_method_2_code 82 = .ok (.iload_n 2, 1) := dd_Tables_load_44.2.2.2.2.2.2.2.2.2.2.2.2.2.2.2.2.2.2.2.2.2.2.1
theorem d_Tables_load_83 : decode prog_8_method_2_code 83 = .ok (.invokevirtual 53, 3) := dd_Tables_load_44.2.2.2.2.2.2.2.2.2.2.2.2.2.2.2.2.2.2.2.2.2.2.2
set_option maxRecDepth 100000 in
theorem dd_Tables_load_86 : (decode prog_8_method_2_code 86 = .ok (.goto 4, 3)) ∧ (decode prog_8_method_2_code 89 = .ok (.iconst (-1), 1)) ∧ (decode prog_8_method_2_code 90 = .ok (.iastore, 1)) ∧ (decode prog_8_method_2_code 91 = .ok (.aload_n 0, 1)) ∧ (decode prog_8_method_2_code 92 = .ok (.getfield 24, 3)) ∧ (decode prog_8_method_2_code 95 = .ok (.iload_n 2, 1)) ∧ (decode prog_8_method_2_code 96 = .ok (.iload_n 3, 1)) ∧ (decode prog_8_method_2_code 97 = .ok (.ifCond .eq 12, 3)) ∧ (decode prog_8_method_2_code 100 = .ok (.aload_n 1, 1)) ∧ (decode prog_8_method_2_code 101 = .ok (.getfield 61, 3)) ∧ (decode prog_8_method_2_code 104 = .ok (.iload_n 2, 1)) ∧ (decode prog_8_method_2_code 105 = .ok (.iaload, 1)) ∧ (decode prog_8_method_2_code 106 = .ok (.goto 4, 3)) ∧ (decode prog_8_method_2_code 109 = .ok (.iconst 0, 1)) ∧ (decode prog_8_method_2_code 110 = .ok (.iastore, 1)) ∧ (decode prog_8_method_2_code 111 = .ok (.iconst 0, 1)) ∧ (decode prog_8_method_2_code 112 = .ok (.istore 4, 2)) ∧ (decode prog_8_method_2_code 114 = .ok (.iload 4, 2)) ∧ (decode prog_8_method_2_code 116 = .ok (.aload_n 0, 1)) ∧ (decode prog_8_method_2_code 117 = .ok (.getfield 40, 3)) ∧ (decode prog_8_method_2_code 120 = .ok (.if_icmp .ge 61, 3)) ∧ (decode prog_8_method_2_code 123 = .ok (.iload_n 3, 1)) ∧ (decode prog_8_method_2_code 124 = .ok (.ifCond .eq 21, 3)) ∧ (decode prog_8_method_2_code 127 = .ok (.aload_n 1, 1)) := by
  have h : List.drop 86 prog_8_method_2_code.data.toList = 0xa7 :: _ := rfl
  refine ⟨zq_k_s2 167 (fun z => .goto z) 4 h rfl (zq_o_167 _) (by decide +kernel), ?_⟩
  replace h := zq_nx3 (q := 89) h rfl
  refine ⟨zq_k_n 2 h rfl (zq_o_2 _), ?_⟩
  replace h := zq_nx1 (q := 90) h rfl
  refine ⟨zq_k_n 79 h rfl (zq_o_79 _), ?_⟩
  replace h := zq_nx1 (q := 91) h rfl
  refine ⟨zq_k_n 42 h rfl (zq_o_42 _), ?_⟩
  replace h := zq_nx1 (q := 92) h rfl
  refine ⟨zq_k_u2 180 (fun z => .getfield z) 24 h rfl (zq_o_180 _) (by decide +kernel), ?_⟩
  replace h := zq_nx3 (q := 95) h rfl
  refine ⟨zq_k_n 28 h rfl (zq_o_28 _), ?_⟩
  replace h := zq_nx1 (q := 96) h rfl
  refine ⟨zq_k_n 29 h rfl (zq_o_29 _), ?_⟩
  replace h := zq_nx1 (q := 97) h rfl
  refine ⟨zq_k_s2 153 (fun z => .ifCond .eq z) 12 h rfl (zq_o_153 _) (by decide +kernel), ?_⟩
  replace h := zq_nx3 (q := 100) h rfl
  refine ⟨zq_k_n 43 h rfl (zq_o_43 _), ?_⟩
  replace h := zq_nx1 (q := 101) h rfl
  refine ⟨zq_k_u2 180 (fun z => .getfield z) 61 h rfl (zq_o_180 _) (by decide +kernel), ?_⟩
  replace h := zq_nx3 (q := 104) h rfl
  refine ⟨zq_k_n 28 h rfl (zq_o_28 _), ?_⟩
  replace h := zq_nx1 (q := 105) h rfl
  refine ⟨zq_k_n 46 h rfl (zq_o_46 _), ?_⟩
  replace h := zq_nx1 (q := 106) h rfl
  refine ⟨zq_k_s2 167 (fun z => .goto z) 4 h rfl (zq_o_167 _) (by decide +kernel), ?_⟩
  replace h := zq_nx3 (q := 109) h rfl
  refine ⟨zq_k_n 3 h rfl (zq_o_3 _), ?_⟩
  replace h := zq_nx1 (q := 110) h rfl
  refine ⟨zq_k_n 79 h rfl (zq_o_79 _), ?_⟩
  replace h := zq_nx1 (q := 111) h rfl
  refine ⟨zq_k_n 3 h rfl (zq_o_3 _), ?_⟩
  replace h := zq_nx1 (q := 112) h rfl
  refine ⟨zq_k_u1 54 (fun z => .istore z) 4 h rfl (zq_o_54 _) (by decide +kernel), ?_⟩
  replace h := zq_nx2 (q := 114) h rfl
  refine ⟨zq_k_u1 21 (fun z => .iload z) 4 h rfl (zq_o_21 _) (by decide +kernel), ?_⟩
  replace h := zq_nx2 (q := 116) h rfl
  refine ⟨zq_k_n 42 h rfl (zq_o_42 _), ?_⟩
  replace h := zq_nx1 (q := 117) h rfl
  refine ⟨zq_k_u2 180 (fun z => .getfield z) 40 h rfl (zq_o_180 _) (by decide +kernel), ?_⟩
  replace h := zq_nx3 (q := 120) h rfl
  refine ⟨zq_k_s2 162 (fun z => .if_icmp .ge z) 61 h rfl (zq_o_162 _) (by decide +kernel), ?_⟩
  replace h := zq_nx3 (q := 123) h rfl
  refine ⟨zq_k_n 29 h rfl (zq_o_29 _), ?_⟩
  replace h := zq_nx1 (q := 124) h rfl
  refine ⟨zq_k_s2 153 (fun z => .ifCond .eq z) 21 h rfl (zq_o_153 _) (by decide +kernel), ?_⟩
  replace h := zq_nx3 (q := 127) h rfl
  exact zq_k_n 43 h rfl (zq_o_43 _)
theorem d_Tables_load_86 : decode prog_8_method_2_code 86 = .ok (.goto 4, 3) := dd_Tables_load_86.1
theorem d_Tables_load_89 : decode prog_8_method_2_code 89 = .ok (.iconst (-1), 1) := dd_Tables_load_86.2.1
theorem d_Tables_load_90 : decode prog_8_method_2_code 90 = .ok (.iastore, 1) := dd_Tables_load_86.2.2.1
theorem d_Tables_load_91 : decode prog_8_method_2_code 91 = .ok (.aload_n 0, 1) := dd_Tables_load_86.2.2.2.1
theorem d_Tables_load_92 : decode prog_8_method_2_code 92 = .ok (.getfield 24, 3) := dd_Tables_load_86.2.2.2.2.1
theorem d_Tables_load_95 : decode prog_8_method_2_code 95 = .ok (.iload_n 2, 1) := dd_Tables_load_86.2.2.2.2.2.1
theorem d_Tables_load_96 : decode prog_8_method_2_code 96 = .ok (.iload_n 3, 1) := dd_Tables_load_86.2.2.2.2.2.2.1
theorem d_Tables_load_97 : decode prog_8_method_2_code 97 = .ok (.ifCond .eq 12, 3) := dd_Tables_load_86.2.2.2.2.2.2.2.1
theorem d_Tables_load_100 : decode prog_8_method_2_code 100 = .ok (.aload_n 1, 1) := dd_Tables_load_86.2.2.2.2.2.2.2.2.1
theorem d_Tables_load_101 : decode prog_8_method_2_code 101 = .ok (.getfield 61, 3) := dd_Tables_load_86.2.2.2.2.2.2.2.2.2.1
theorem d_Tables_load_104 : decode prog_8_method_2_code 104 = .ok (.iload_n 2, 1) := dd_Tables_load_86.2.2.2.2.2.2.2.2.2.2.1
theorem d_Tables_load_105 : decode prog_8_method_2_code 105 = .ok (.iaload, 1) := dd_Tables_load_86.2.2.2.2.2.2.2.2.2.2.2.1
theorem d_Tables_load_106 : decode prog_8_method_2_code 106 = .ok (.goto 4, 3) := dd_Tables_load_86.2.2.2.2.2.2.2.2.2.2.2.2.1
theorem d_Tables_load_109 : decode prog_8_method_2_code 109 = .ok (.iconst 0, 1) := dd_Tables_load_86.2.2.2.2.2.2.2.2.2.2.2.2.2.1
theorem d_Tables_load_110 : decode prog_8_method_2_code 110 = .ok (.iastore, 1) := dd_Tables_load_86.2.2.2.2.2.2.2.2.2.2.2.2.2.2.1
theorem d_Tables_load_111 : decode prog_8_method_2_code 111 = .ok (.iconst 0, 1) := dd_Tables_load_86.2.2.2.2.2.2.2.2.2.2.2.2.2.2.2.1
theorem d_Tables_load_112 : decode prog_8_method_2_code 112 = .ok (.istore 4, 2) := dd_Tables_load_86.2.2.2.2.2.2.2.2.2.2.2.2.2.2.2.2.1
theorem d_Tables_load_114 : decode prog_8_method_2_code 114 = .ok (.iload 4, 2) := dd_Tables_load_86.2.2.2.2.2.2.2.2.2.2.2.2.2.2.2.2.2.1
theorem d_Tables_load_116 : decode prog_8_method_2_code 116 = .ok (.aload_n 0, 1) := dd_Tables_load_86.2.2.2.2.2.2.2.2.2.2.2.2.2.2.2.2.2.2.1
theorem d_Tables_load_117 : decode prog_8_method_2_code 117 = .ok (.getfield 40, 3) := dd_Tables_load_86.2.2.2.2.2.2.2.2.2.2.2.2.2.2.2.2.2.2.2.1
theorem d_Tables_load_120 : decode prog_8_method_2_code 120 = .ok (.if_icmp .ge 61, 3) := dd_Tables_load_86.2.2.2.2.2.2.2.2.2.2.2.2.2.2.2.2.2.2.2.2.1
theorem d_Tables_load_123 : decode prog_8_method_2_code 123 = .ok (.iload_n 3, 1) := dd_Tables_load_86.2.2.2.2.2.2.2.2.2.2.2.2.2.2.2.2.2.2.2.2.2.1
theorem d_Tables_load_124 : decode prog_8_method_2_code 124 = .ok (.ifCond .eq 21, 3) := dd_Tables_load_86.2.2.2.2.2.2.2.2.2.2.2.2.2.2.2.2.2.2.2.2.2.2.1
theorem d_Tables_load_127 : decode prog_8_method_2_code 127 = .ok (.aload_n 1, 1) := dd_Tables_load_86.2.2.2.2.2.2.2.2.2.2.2.2.2.2.2.2.2.2.2.2.2.2.2
set_option maxRecDepth 100000 in
theorem dd_Tables_load_128 : (decode prog_8_method_2_code 128 = .ok (.getfield 62, 3)) ∧ (decode prog_8_method_2_code 131 = .ok (.iload_n 2, 1)) ∧ (decode prog_8_method_2_code 132 = .ok (.iaload, 1)) ∧ (decode prog_8_method_2_code 133 = .ok (.iload 4, 2)) ∧ (decode prog_8_method_2_code 135 = .ok (.invokestatic 65, 3)) ∧ (decode prog_8_method_2_code 138 = .ok (.ifCond .ne 7, 3)) ∧ (decode prog_8_method_2_code 141 = .ok (.iconst 1, 1)) ∧ (decode prog_8_method_2_code 142 = .ok (.goto 4, 3)) ∧ (decode prog_8_method_2_code 145 = .ok (.iconst 0, 1)) ∧ (decode prog_8_method_2_code 146 = .ok (.istore 5, 2)) ∧ (decode prog_8_method_2_code 148 = .ok (.aload_n 0, 1)) ∧ (decode prog_8_method_2_code 149 = .ok (.getfield 15, 3)) ∧ (decode prog_8_method_2_code 152 = .ok (.iload_n 2, 1)) ∧ (decode prog_8_method_2_code 153 = .ok (.iconst 5, 1)) ∧ (decode prog_8_method_2_code 154 = .ok (.imul, 1)) ∧ (decode prog_8_method_2_code 155 = .ok (.iload 4, 2)) ∧ (decode prog_8_method_2_code 157 = .ok (.iadd, 1)) ∧ (decode prog_8_method_2_code 158 = .ok (.iload 5, 2)) ∧ (decode prog_8_method_2_code 160 = .ok (.ifCond .eq 13, 3)) ∧ (decode prog_8_method_2_code 163 = .ok (.aload_n 1, 1)) ∧ (decode prog_8_method_2_code 164 = .ok (.getfield 69, 3)) ∧ (decode prog_8_method_2_code 167 = .ok (.iload 4, 2)) ∧ (decode prog_8_method_2_code 169 = .ok (.iaload, 1)) ∧ (decode prog_8_method_2_code 170 = .ok (.goto 4, 3)) := by
  have h : List.drop 128 prog_8_method_2_code.data.toList = 0xb4 :: _ := rfl
  refine ⟨zq_k_u2 180 (fun z => .getfield z) 62 h rfl (zq_o_180 _) (by decide +kernel), ?_⟩
  replace h := zq_nx3 (q := 131) h rfl
  refine ⟨zq_k_n 28 h rfl (zq_o_28 _), ?_⟩
  replace h := zq_nx1 (q := 132) h rfl
  refine ⟨zq_k_n 46 h rfl (zq_o_46 _), ?_⟩
  replace h := zq_nx1 (q := 133) h rfl
  refine ⟨zq_k_u1 21 (fun z => .iload z) 4 h rfl (zq_o_21 _) (by decide +kernel), ?_⟩
  replace h := zq_nx2 (q := 135) h rfl
  refine ⟨zq_k_u2 184 (fun z => .invokestatic z) 65 h rfl (zq_o_184 _) (by decide +kernel), ?_⟩
  replace h := zq_nx3 (q := 138) h rfl
  refine ⟨zq_k_s2 154 (fun z => .ifCond .ne z) 7 h rfl (zq_o_154 _) (by decide +kernel), ?_⟩
  replace h := zq_nx3 (q := 141) h rfl
  refine ⟨zq_k_n 4 h rfl (zq_o_4 _), ?_⟩
  replace h := zq_nx1 (q := 142) h rfl
  refine ⟨zq_k_s2 167 (fun z => .goto z) 4 h rfl (zq_o_167 _) (by decide +kernel), ?_⟩
  replace h := zq_nx3 (q := 145) h rfl
  refine ⟨zq_k_n 3 h rfl (zq_o_3 _), ?_⟩
  replace h := zq_nx1 (q := 146) h rfl
  refine ⟨zq_k_u1 54 (fun z => .istore z) 5 h rfl (zq_o_54 _) (by decide +kernel), ?_⟩
  replace h := zq_nx2 (q := 148) h rfl
  refine ⟨zq_k_n 42 h rfl (zq_o_42 _), ?_⟩
  replace h := zq_nx1 (q := 149) h rfl
  refine ⟨zq_k_u2 180 (fun z => .getfield z) 15 h rfl (zq_o_180 _) (by decide +kernel), ?_⟩
  replace h := zq_nx3 (q := 152) h rfl
  refine ⟨zq_k_n 28 h rfl (zq_o_28 _), ?_⟩
  replace h := zq_nx1 (q := 153) h rfl
  refine ⟨zq_k_n 8 h rfl (zq_o_8 _), ?_⟩
  replace h := zq_nx1 (q := 154) h rfl
  refine ⟨zq_k_n 104 h rfl (zq_o_104 _), ?_⟩
  replace h := zq_nx1 (q := 155) h rfl
  refine ⟨zq_k_u1 21 (fun z => .iload z) 4 h rfl (zq_o_21 _) (by decide +kernel), ?_⟩
  replace h := zq_nx2 (q := 157) h rfl
  refine ⟨zq_k_n 96 h rfl (zq_o_96 _), ?_⟩
  replace h := zq_nx1 (q := 158) h rfl
  refine ⟨zq_k_u1 21 (fun z => .iload z) 5 h rfl (zq_o_21 _) (by decide +kernel), ?_⟩
  replace h := zq_nx2 (q := 160) h rfl
  refine ⟨zq_k_s2 153 (fun z => .ifCond .eq z) 13 h rfl (zq_o_153 _) (by decide +kernel), ?_⟩
  replace h := zq_nx3 (q := 163) h rfl
  refine ⟨zq_k_n 43 h rfl (zq_o_43 _), ?_⟩
  replace h := zq_nx1 (q := 164) h rfl
  refine ⟨zq_k_u2 180 (fun z => .getfield z) 69 h rfl (zq_o_180 _) (by decide +kernel), ?_⟩
  replace h := zq_nx3 (q := 167) h rfl
  refine ⟨zq_k_u1 21 (fun z => .iload z) 4 h rfl (zq_o_21 _) (by decide +kernel), ?_⟩
  replace h := zq_nx2 (q := 169) h rfl
  refine ⟨zq_k_n 46 h rfl (zq_o_46 _), ?_⟩
  replace h := zq_nx1 (q := 170) h rfl
  exact zq_k_s2 167 (fun z => .goto z) 4 h rfl (zq_o_167 _) (by decide +kernel)
theorem d_Tables_load_128 : decode prog_8_method_2_code 128 = .ok (.getfield 62, 3) := dd_Tables_load_128.1
theorem d_Tables_load_131 : decode prog_8_method_2_code 131 = .ok (.iload_n 2, 1) := dd_Tables_load_128.2.1
theorem d_Tables_load_132 : decode prog_8_method_2_code 132 = .ok (.iaload, 1) := dd_Tables_load_128.2.2.1
theorem d_Tables_load_133 : decode prog_8_method_2_code 133 = .ok (.iload 4, 2) := dd_Tables_load_128.2.2.2.1
theorem d_Tables_load_135 : decode prog_8_method_2_code 135 = .ok (.invokestatic 65, 3) := dd_Tables_load_128.2.2.2.2.1
theorem d_Tables_load_138 : decode prog_8_method_2_code 138 = .ok (.ifCond .ne 7, 3) := dd_Tables_load_128.2.2.2.2.2.1
theorem d_Tables_load_141 : decode prog_8_method_2_code 141 = .ok (.iconst 1, 1) := dd_Tables_load_128.2.2.2.2.2.2.1
theorem d_Tables_load_142 : decode prog_8_method_2_code 142 = .ok (.goto 4, 3) := dd_Tables_load_128.2.2.2.2.2.2.2.1
theorem d_Tables_load_145 : decode prog_8_method_2_code 145 = .ok (.iconst 0, 1) := dd_Tables_load_128.2.2.2.2.2.2.2.2.1
theorem d_Tables_load_146 : decode prog_8_method_2_code 146 = .ok (.istore 5, 2) := dd_Tables_load_128.2.2.2.2.2.2.2.2.2.1
theorem d_Tables_load_148 : decode prog_8_method_2_code 148 = .ok (.aload_n 0, 1) := dd_Tables_load_128.2.2.2.2.2.2.2.2.2.2.1
theorem d_Tables_load_149 : decode prog_8_method_2_code 149 = .ok (.getfield 15, 3) := dd_Tables_load_128.2.2.2.2.2.2.2.2.2.2.2.1
theorem d_Tables_load_152 : decode prog_8_method_2_code 152 = .ok (.iload_n 2, 1) := dd_Tables_load_128.2.2.2.2.2.2.2.2.2.2.2.2.1
theorem d_Tables_load_153 : decode prog_8_method_2_code 153 = .ok (.iconst 5, 1) := dd_Tables_load_128.2.2.2.2.2.2.2.2.2.2.2.2.2.1
theorem d_Tables_load_154 : decode prog_8_method_2_code 154 = .ok (.imul, 1) := dd_Tables_load_128.2.2.2.2.2.2.2.2.2.2.2.2.2.2.1
theorem d_Tables_load_155 : decode prog_8_method_2_code 155 = .ok (.iload 4, 2) := dd_Tables_load_128.2.2.2.2.2.2.2.2.2.2.2.2.2.2.2.1
theorem d_Tables_load_157 : decode prog_8_method_2_code 157 = .ok (.iadd, 1) := dd_Tables_load_128.2.2.2.2.2.2.2.2.2.2.2.2.2.2.2.2.1
theorem d_Tables_load_158 : decode prog_8_method_2_code 158 = .ok (.iload 5, 2) := dd_Tables_load_128.2.2.2.2.2.2.2.2.2.2.2.2.2.2.2.2.2.1
theorem d_Tables_load_160 : decode prog_8_method_2_code 160 = .ok (.ifCond .eq 13, 3) := dd_Tables_load_128.2.2.2.2.2.2.2.2.2.2.2.2.2.2.2.2.2.2.1
theorem d_Tables_load_163 : decode prog_8_method_2_code 163 = .ok (.aload_n 1, 1) := dd_Tables_load_128.2.2.2.2.2.2.2.2.2.2.2.2.2.2.2.2.2.2.2.1
theorem d_Tables_load_164 : decode prog_8_method_2_code 164 = .ok (.getfield 69, 3) := dd_Tables_load_128.2.2.2.2.2.2.2.2.2.2.2.2.2.2.2.2.2.2.2.2.1
theorem d_Tables_load_167 : decode prog_8_method_2_code 167 = .ok (.iload 4, 2) := dd_Tables_load_128.2.2.2.2.2.2.2.2.2.2.2.2.2.2.2.2.2.2.2.2.2.1
theorem d_Tables_load_169 : decode prog_8_method_2_code 169 = .ok (.iaload, 1) := dd_Tables_load_128.2.2.2.2.2.2.2.2.2.2.2.2.2.2.2.2.2.2.2.2.2.2.1
theorem d_Tables_load_170 : decode prog_8_method_2_code 170 = .ok (.goto 4, 3) := dd_Tables_load_128.2.2.2.2.2.2.2.2.2.2.2.2.2.2.2.2.2.2.2.2.2.2.2
set_option maxRecDepth 100000 in
theorem dd_Tables_load_173 : (decode prog_8_method_2_code 173 = .ok (.iconst 0, 1)) ∧ (decode prog_8_method_2_code 174 = .ok (.iastore, 1)) ∧ (decode prog_8_method_2_code 175 = .ok (.iinc 4 1, 3)) ∧ (decode prog_8_method_2_code 178 = .ok (.goto (-64), 3)) ∧ (decode prog_8_method_2_code 181 = .ok (.iinc 2 1, 3)) ∧ (decode prog_8_method_2_code 184 = .ok (.goto (-127), 3)) ∧ (decode prog_8_method_2_code 187 = .ok (.return_, 1)) := by
  have h : List.drop 173 prog_8_method_2_code.data.toList = 0x03 :: _ := rfl
  refine ⟨zq_k_n 3 h rfl (zq_o_3 _), ?_⟩
  replace h := zq_nx1 (q := 174) h rfl
  refine ⟨zq_k_n 79 h rfl (zq_o_79 _), ?_⟩
  replace h := zq_nx1 (q := 175) h rfl
  refine ⟨zq_k_iinc 4 1 h rfl (zq_o_132 _) (by decide +kernel) (by decide +kernel), ?_⟩
  replace h := zq_nx3 (q := 178) h rfl
  refine ⟨zq_k_s2 167 (fun z => .goto z) (-64) h rfl (zq_o_167 _) (by decide +kernel), ?_⟩
  replace h := zq_nx3 (q := 181) h rfl
  refine ⟨zq_k_iinc 2 1 h rfl (zq_o_132 _) (by decide +kernel) (by decide +kernel), ?_⟩
  replace h := zq_nx3 (q := 184) h rfl
  refine ⟨zq_k_s2 167 (fun z => .goto z) (-127) h rfl (zq_o_167 _) (by decide +kernel), ?_⟩
  replace h := zq_nx3 (q := 187) h rfl
  exact zq_k_n 177 h rfl (zq_o_177 _)
theorem d_Tables_load_173 : decode prog_8_method_2_code 173 = .ok (.iconst 0, 1) := dd_Tables_load_173.1
theorem d_Tables_load_174 : decode prog_8_method_2_code 174 = .ok (.iastore, 1) := dd_Tables_load_173.2.1
theorem d_Tables_load_175 : decode prog_8_method_2_code 175 = .ok (.iinc 4 1, 3) := dd_Tables_load_173.2.2.1
theorem d_Tables_load_178 : decode prog_8_method_2_code 178 = .ok (.goto (-64), 3) := dd_Tables_load_173.2.2.2.1
theorem d_Tables_load_181 : decode prog_8_method_2_code 181 = .ok (.iinc 2 1, 3) := dd_Tables_load_173.2.2.2.2.1
theorem d_Tables_load_184 : decode prog_8_method_2_code 184 = .ok (.goto (-127), 3) := dd_Tables_load_173.2.2.2.2.2.1
theorem d_Tables_load_187 : decode prog_8_method_2_code 187 = .ok (.return_, 1) := dd_Tables_load_173.2.2.2.2.2.2
def f_Tables_load_174 (rec57 : Nat → Nat → Int32 → mH → Option mH) (rec114 : Nat → Nat → Int32 → Int32 → Int32 → mH → Option mH) (b0 : Nat) (b1 : Nat) (b2 : Int32) (b3 : Int32) (b4 : Int32) (s0 : Nat) (s1 : Int32) (s2 : Int32) (h : mH) : Option mH :=
  bd1 (sI h 0 s0 s1 s2) fun h73 =>
  rec114 b0 b1 b2 b3 (b4 + (1 : Int32)) h73
set_option maxRecDepth 20000 in
theorem t_Tables_load_174 {sc : Nat × (Nat → Int32)} (rec57 : Nat → Nat → Int32 → mH → Option mH) (hrec57 : ∀ (b0 : Nat) (b1 : Nat) (b2 : Int32) (h : mH) (h' : mH), rec57 b0 b1 b2 h = some h' → G sc y_Tables_load prog_8_method_2_code 6 none 1 24 57 [(0, .ref b0), (1, .ref b1), (2, .int b2)] [] h none h') (rec114 : Nat → Nat → Int32 → Int32 → Int32 → mH → Option mH) (hrec114 : ∀ (b0 : Nat) (b1 : Nat) (b2 : Int32) (b3 : Int32) (b4 : Int32) (h : mH) (h' : mH), rec114 b0 b1 b2 b3 b4 h = some h' → G sc y_Tables_load prog_8_method_2_code 6 none 1 24 114 [(0, .ref b0), (1, .ref b1), (2, .int b2), (3, .int b3), (4, .int b4)] [] h none h') (b0 : Nat) (b1 : Nat) (b2 : Int32) (b3 : Int32) (b4 : Int32) (s0 : Nat) (s1 : Int32) (s2 : Int32) (h : mH) (h' : mH) (hf : f_Tables_load_174 rec57 rec114 b0 b1 b2 b3 b4 s0 s1 s2 h = some h') : G sc y_Tables_load prog_8_method_2_code 6 none 1 24 174 [(0, .ref b0), (1, .ref b1), (2, .int b2), (3, .int b3), (4, .int b4)] [.int s2, .int s1, .ref s0] h none h' := by
  unfold f_Tables_load_174 at hf
  obtain ⟨h73, e74, hf⟩ := bd1_e hf
  refine g_iast (pc := 174) d_Tables_load_174 e74 ?_
  refine g_iinc (pc := 175) 4 (b4 + (1 : Int32)) [(4, .int (b4 + (1 : Int32))), (0, .ref b0), (1, .ref b1), (2, .int b2), (3, .int b3)] d_Tables_load_175 rfl rfl (Nat.le_of_ble_eq_true rfl) rfl ?_
  refine g_goto (pc := 178) 114 d_Tables_load_178 (by decide) ?_
  refine g_lv [1, 2, 3, 4, 0] rfl ?_
  exact hrec114 _ _ _ _ _ _ _  hf
def f_Tables_load_146 (rec57 : Nat → Nat → Int32 → mH → Option mH) (rec114 : Nat → Nat → Int32 → Int32 → Int32 → mH → Option mH) (b0 : Nat) (b1 : Nat) (b2 : Int32) (b3 : Int32) (b4 : Int32) (s0 : Int32) (h : mH) : Option mH :=
  bd1 (gR h b0 7 2) fun x66 =>
  if s0 = 0 then
    f_Tables_load_174 rec57 rec114 b0 b1 b2 b3 b4 x66 ((b2 * (5 : Int32)) + b4) (0 : Int32) h
  else
    bd1 (gR h b1 4 7) fun x68 =>
    bd1 (aI h 0 x68 b4) fun x70 =>
    f_Tables_load_174 rec57 rec114 b0 b1 b2 b3 b4 x66 ((b2 * (5 : Int32)) + b4) x70 h
set_option maxRecDepth 20000 in
theorem t_Tables_load_146 {sc : Nat × (Nat → Int32)} (rec57 : Nat → Nat → Int32 → mH → Option mH) (hrec57 : ∀ (b0 : Nat) (b1 : Nat) (b2 : Int32) (h : mH) (h' : mH), rec57 b0 b1 b2 h = some h' → G sc y_Tables_load prog_8_method_2_code 6 none 1 24 57 [(0, .ref b0), (1, .ref b1), (2, .int b2)] [] h none h') (rec114 : Nat → Nat → Int32 → Int32 → Int32 → mH → Option mH) (hrec114 : ∀ (b0 : Nat) (b1 : Nat) (b2 : Int32) (b3 : Int32) (b4 : Int32) (h : mH) (h' : mH), rec114 b0 b1 b2 b3 b4 h = some h' → G sc y_Tables_load prog_8_method_2_code 6 none 1 24 114 [(0, .ref b0), (1, .ref b1), (2, .int b2), (3, .int b3), (4, .int b4)] [] h none h') (b0 : Nat) (b1 : Nat) (b2 : Int32) (b3 : Int32) (b4 : Int32) (s0 : Int32) (h : mH) (h' : mH) (hf : f_Tables_load_146 rec57 rec114 b0 b1 b2 b3 b4 s0 h = some h') : G sc y_Tables_load prog_8_method_2_code 6 none 1 24 146 [(0, .ref b0), (1, .ref b1), (2, .int b2), (3, .int b3), (4, .int b4)] [.int s0] h none h' := by
  unfold f_Tables_load_146 at hf
  refine g_istore (pc := 146) [(5, .int s0), (0, .ref b0), (1, .ref b1), (2, .int b2), (3, .int b3), (4, .int b4)] d_Tables_load_146 (Nat.le_of_ble_eq_true rfl) rfl ?_
  refine g_aload_n (pc := 148) 1 d_Tables_load_148 rfl rfl ?_
  obtain ⟨x66, e67, hf⟩ := bd1_e hf
  refine g_get (pc := 149) (ci := 7) (kk := 2) d_Tables_load_149 rfl in_Tables (by decide) wd_238 (gR_spec e67) ?_
  refine g_iload_n (pc := 152) 3 d_Tables_load_152 rfl rfl ?_
  refine g_iconst (pc := 153) (5 : Int32) d_Tables_load_153 (by decide) ?_
  refine g_imul (pc := 154) d_Tables_load_154 ?_
  refine g_iload (pc := 155) 5 d_Tables_load_155 rfl ?_
  refine g_iadd (pc := 157) d_Tables_load_157 ?_
  refine g_iload (pc := 158) 0 d_Tables_load_158 rfl ?_
  refine g_ifeq (pc := 160) 173 d_Tables_load_160 (by decide) (fun c72 => ?_) (fun c72 => ?_)
  · replace hf := (if_pos c72).symm.trans hf
    refine g_iconst (pc := 173) (0 : Int32) d_Tables_load_173 (by decide) ?_
    refine g_lv [1, 2, 3, 4, 5] rfl ?_
    exact t_Tables_load_174 rec57 hrec57 rec114 hrec114 _ _ _ _ _ _ _ _ _ _  hf
  · replace hf := (if_neg c72).symm.trans hf
    refine g_aload_n (pc := 163) 2 d_Tables_load_163 rfl rfl ?_
    obtain ⟨x68, e69, hf⟩ := bd1_e hf
    refine g_get (pc := 164) (ci := 4) (kk := 7) d_Tables_load_164 rfl in_Realm (by decide) wd_117 (gR_spec e69) ?_
    refine g_iload (pc := 167) 5 d_Tables_load_167 rfl ?_
    obtain ⟨x70, e71, hf⟩ := bd1_e hf
    refine g_iald (pc := 169) d_Tables_load_169 e71 ?_
    refine g_goto (pc := 170) 174 d_Tables_load_170 (by decide) ?_
    refine g_lv [1, 2, 3, 4, 5] rfl ?_
    exact t_Tables_load_174 rec57 hrec57 rec114 hrec114 _ _ _ _ _ _ _ _ _ _  hf
def f_Tables_load_145 (rec57 : Nat → Nat → Int32 → mH → Option mH) (rec114 : Nat → Nat → Int32 → Int32 → Int32 → mH → Option mH) (b0 : Nat) (b1 : Nat) (b2 : Int32) (b3 : Int32) (b4 : Int32) (h : mH) : Option mH :=
  f_Tables_load_146 rec57 rec114 b0 b1 b2 b3 b4 (0 : Int32) h
set_option maxRecDepth 20000 in
theorem t_Tables_load_145 {sc : Nat × (Nat → Int32)} (rec57 : Nat → Nat → Int32 → mH → Option mH) (hrec57 : ∀ (b0 : Nat) (b1 : Nat) (b2 : Int32) (h : mH) (h' : mH), rec57 b0 b1 b2 h = some h' → G sc y_Tables_load prog_8_method_2_code 6 none 1 24 57 [(0, .ref b0), (1, .ref b1), (2, .int b2)] [] h none h') (rec114 : Nat → Nat → Int32 → Int32 → Int32 → mH → Option mH) (hrec114 : ∀ (b0 : Nat) (b1 : Nat) (b2 : Int32) (b3 : Int32) (b4 : Int32) (h : mH) (h' : mH), rec114 b0 b1 b2 b3 b4 h = some h' → G sc y_Tables_load prog_8_method_2_code 6 none 1 24 114 [(0, .ref b0), (1, .ref b1), (2, .int b2), (3, .int b3), (4, .int b4)] [] h none h') (b0 : Nat) (b1 : Nat) (b2 : Int32) (b3 : Int32) (b4 : Int32) (h : mH) (h' : mH) (hf : f_Tables_load_145 rec57 rec114 b0 b1 b2 b3 b4 h = some h') : G sc y_Tables_load prog_8_method_2_code 6 none 1 24 145 [(0, .ref b0), (1, .ref b1), (2, .int b2), (3, .int b3), (4, .int b4)] [] h none h' := by
  unfold f_Tables_load_145 at hf
  refine g_iconst (pc := 145) (0 : Int32) d_Tables_load_145 (by decide) ?_
  refine g_lv [0, 1, 2, 3, 4] rfl ?_
  exact t_Tables_load_146 rec57 hrec57 rec114 hrec114 _ _ _ _ _ _ _ _  hf
def f_Tables_load_114b (rec57 : Nat → Nat → Int32 → mH → Option mH) (rec114 : Nat → Nat → Int32 → Int32 → Int32 → mH → Option mH) (b0 : Nat) (b1 : Nat) (b2 : Int32) (b3 : Int32) (b4 : Int32) (h : mH) : Option mH :=
  bd1 (gI h b0 7 0) fun x54 =>
  if x54 ≤ b4 then
    rec57 b0 b1 (b2 + (1 : Int32)) h
  else
    if b3 = 0 then
      f_Tables_load_145 rec57 rec114 b0 b1 b2 b3 b4 h
    else
      bd1 (gR h b1 4 15) fun x56 =>
      bd1 (aI h 0 x56 b2) fun x58 =>
      bd2 (f_Q_hasBit x58 b4 h) fun x62 h60 =>
      if x62 = 0 then
        f_Tables_load_146 rec57 rec114 b0 b1 b2 b3 b4 (1 : Int32) h60
      else
        f_Tables_load_145 rec57 rec114 b0 b1 b2 b3 b4 h60
set_option maxRecDepth 20000 in
theorem t_Tables_load_114b {sc : Nat × (Nat → Int32)} (rec57 : Nat → Nat → Int32 → mH → Option mH) (hrec57 : ∀ (b0 : Nat) (b1 : Nat) (b2 : Int32) (h : mH) (h' : mH), rec57 b0 b1 b2 h = some h' → G sc y_Tables_load prog_8_method_2_code 6 none 1 24 57 [(0, .ref b0), (1, .ref b1), (2, .int b2)] [] h none h') (rec114 : Nat → Nat → Int32 → Int32 → Int32 → mH → Option mH) (hrec114 : ∀ (b0 : Nat) (b1 : Nat) (b2 : Int32) (b3 : Int32) (b4 : Int32) (h : mH) (h' : mH), rec114 b0 b1 b2 b3 b4 h = some h' → G sc y_Tables_load prog_8_method_2_code 6 none 1 24 114 [(0, .ref b0), (1, .ref b1), (2, .int b2), (3, .int b3), (4, .int b4)] [] h none h') (b0 : Nat) (b1 : Nat) (b2 : Int32) (b3 : Int32) (b4 : Int32) (h : mH) (h' : mH) (hf : f_Tables_load_114b rec57 rec114 b0 b1 b2 b3 b4 h = some h') : G sc y_Tables_load prog_8_method_2_code 6 none 1 24 114 [(0, .ref b0), (1, .ref b1), (2, .int b2), (3, .int b3), (4, .int b4)] [] h none h' := by
  unfold f_Tables_load_114b at hf
  refine g_iload (pc := 114) 4 d_Tables_load_114 rfl ?_
  refine g_aload_n (pc := 116) 0 d_Tables_load_116 rfl rfl ?_
  obtain ⟨x54, e55, hf⟩ := bd1_e hf
  refine g_get (pc := 117) (ci := 7) (kk := 0) d_Tables_load_117 rfl in_Tables (by decide) wd_236 (gI_spec e55) ?_
  refine g_icmpge (pc := 120) 181 d_Tables_load_120 (by decide) (fun c65 => ?_) (fun c65 => ?_)
  · replace hf := (if_pos c65).symm.trans hf
    refine g_iinc (pc := 181) 2 (b2 + (1 : Int32)) [(2, .int (b2 + (1 : Int32))), (0, .ref b0), (1, .ref b1), (3, .int b3), (4, .int b4)] d_Tables_load_181 rfl rfl (Nat.le_of_ble_eq_true rfl) rfl ?_
    refine g_goto (pc := 184) 57 d_Tables_load_184 (by decide) ?_
    refine g_lv [1, 2, 0] rfl ?_
    exact hrec57 _ _ _ _ _  hf
  · replace hf := (if_neg c65).symm.trans hf
    refine g_iload_n (pc := 123) 3 d_Tables_load_123 rfl rfl ?_
    refine g_ifeq (pc := 124) 145 d_Tables_load_124 (by decide) (fun c64 => ?_) (fun c64 => ?_)
    · replace hf := (if_pos c64).symm.trans hf
      refine g_lv [0, 1, 2, 3, 4] rfl ?_
      exact t_Tables_load_145 rec57 hrec57 rec114 hrec114 _ _ _ _ _ _ _  hf
    · replace hf := (if_neg c64).symm.trans hf
      refine g_aload_n (pc := 127) 1 d_Tables_load_127 rfl rfl ?_
      obtain ⟨x56, e57, hf⟩ := bd1_e hf
      refine g_get (pc := 128) (ci := 4) (kk := 15) d_Tables_load_128 rfl in_Realm (by decide) wd_146 (gR_spec e57) ?_
      refine g_iload_n (pc := 131) 2 d_Tables_load_131 rfl rfl ?_
      obtain ⟨x58, e59, hf⟩ := bd1_e hf
      refine g_iald (pc := 132) d_Tables_load_132 e59 ?_
      refine g_iload (pc := 133) 4 d_Tables_load_133 rfl ?_
      obtain ⟨x62, h60, e61, hf⟩ := bd2_e hf
      refine g_callSN (pc := 135) "QuotaLaws" [.int x58, .int b4] (site_of si_Q_hasBit (by decide) (by decide)) wd_794 wd_469 d_Tables_load_135 (Nat.le_of_ble_eq_true rfl) (fun z => absurd z (by decide)) (fun z => absurd z (by decide)) (fun z => absurd z (by decide)) (c_Q_hasBit e61) rfl ?_
      refine g_st [.int x62] rfl ?_
      refine g_ifne (pc := 138) 145 d_Tables_load_138 (by decide) (fun c63 => ?_) (fun c63 => ?_)
      · replace hf := (if_neg c63).symm.trans hf
        refine g_lv [0, 1, 2, 3, 4] rfl ?_
        exact t_Tables_load_145 rec57 hrec57 rec114 hrec114 _ _ _ _ _ _ _  hf
      · replace hf := (if_pos c63).symm.trans hf
        refine g_iconst (pc := 141) (1 : Int32) d_Tables_load_141 (by decide) ?_
        refine g_goto (pc := 142) 146 d_Tables_load_142 (by decide) ?_
        refine g_lv [0, 1, 2, 3, 4] rfl ?_
        exact t_Tables_load_146 rec57 hrec57 rec114 hrec114 _ _ _ _ _ _ _ _  hf
def f_Tables_load_114 (rec57 : Nat → Nat → Int32 → mH → Option mH) : Nat → Nat → Nat → Int32 → Int32 → Int32 → mH → Option mH
  | 0 => fun _ _ _ _ _ _ => none
  | n + 1 => f_Tables_load_114b rec57 (f_Tables_load_114 rec57 n)
theorem t_Tables_load_114 {sc : Nat × (Nat → Int32)} (rec57 : Nat → Nat → Int32 → mH → Option mH) (hrec57 : ∀ (b0 : Nat) (b1 : Nat) (b2 : Int32) (h : mH) (h' : mH), rec57 b0 b1 b2 h = some h' → G sc y_Tables_load prog_8_method_2_code 6 none 1 24 57 [(0, .ref b0), (1, .ref b1), (2, .int b2)] [] h none h') : ∀ (n : Nat) (b0 : Nat) (b1 : Nat) (b2 : Int32) (b3 : Int32) (b4 : Int32) (h : mH) (h' : mH) (hf : f_Tables_load_114 rec57 n b0 b1 b2 b3 b4 h = some h'), G sc y_Tables_load prog_8_method_2_code 6 none 1 24 114 [(0, .ref b0), (1, .ref b1), (2, .int b2), (3, .int b3), (4, .int b4)] [] h none h'
  | 0, _, _, _, _, _, _, _, hf => by cases hf
  | n + 1, _, _, _, _, _, _, _, hf => t_Tables_load_114b rec57 hrec57 (f_Tables_load_114 rec57 n) (t_Tables_load_114 rec57 hrec57 n) _ _ _ _ _ _ _ hf
def f_Tables_load_110 (rec57 : Nat → Nat → Int32 → mH → Option mH) (b0 : Nat) (b1 : Nat) (b2 : Int32) (b3 : Int32) (s0 : Nat) (s1 : Int32) (s2 : Int32) (h : mH) : Option mH :=
  bd1 (sI h 0 s0 s1 s2) fun h52 =>
  f_Tables_load_114 rec57 FU b0 b1 b2 b3 (0 : Int32) h52
set_option maxRecDepth 20000 in
theorem t_Tables_load_110 {sc : Nat × (Nat → Int32)} (rec57 : Nat → Nat → Int32 → mH → Option mH) (hrec57 : ∀ (b0 : Nat) (b1 : Nat) (b2 : Int32) (h : mH) (h' : mH), rec57 b0 b1 b2 h = some h' → G sc y_Tables_load prog_8_method_2_code 6 none 1 24 57 [(0, .ref b0), (1, .ref b1), (2, .int b2)] [] h none h') (b0 : Nat) (b1 : Nat) (b2 : Int32) (b3 : Int32) (s0 : Nat) (s1 : Int32) (s2 : Int32) (h : mH) (h' : mH) (hf : f_Tables_load_110 rec57 b0 b1 b2 b3 s0 s1 s2 h = some h') : G sc y_Tables_load prog_8_method_2_code 6 none 1 24 110 [(0, .ref b0), (1, .ref b1), (2, .int b2), (3, .int b3)] [.int s2, .int s1, .ref s0] h none h' := by
  unfold f_Tables_load_110 at hf
  obtain ⟨h52, e53, hf⟩ := bd1_e hf
  refine g_iast (pc := 110) d_Tables_load_110 e53 ?_
  refine g_iconst (pc := 111) (0 : Int32) d_Tables_load_111 (by decide) ?_
  refine g_istore (pc := 112) [(4, .int (0 : Int32)), (0, .ref b0), (1, .ref b1), (2, .int b2), (3, .int b3)] d_Tables_load_112 (Nat.le_of_ble_eq_true rfl) rfl ?_
  refine g_lv [1, 2, 3, 4, 0] rfl ?_
  exact t_Tables_load_114 rec57 hrec57 FU _ _ _ _ _ _ _  hf
def f_Tables_load_90 (rec57 : Nat → Nat → Int32 → mH → Option mH) (b0 : Nat) (b1 : Nat) (b2 : Int32) (b3 : Int32) (s0 : Nat) (s1 : Int32) (s2 : Int32) (h : mH) : Option mH :=
  bd1 (sI h 0 s0 s1 s2) fun h43 =>
  bd1 (gR h43 b0 7 5) fun x45 =>
  if b3 = 0 then
    f_Tables_load_110 rec57 b0 b1 b2 b3 x45 b2 (0 : Int32) h43
  else
    bd1 (gR h43 b1 4 11) fun x47 =>
    bd1 (aI h43 0 x47 b2) fun x49 =>
    f_Tables_load_110 rec57 b0 b1 b2 b3 x45 b2 x49 h43
set_option maxRecDepth 20000 in
theorem t_Tables_load_90 {sc : Nat × (Nat → Int32)} (rec57 : Nat → Nat → Int32 → mH → Option mH) (hrec57 : ∀ (b0 : Nat) (b1 : Nat) (b2 : Int32) (h : mH) (h' : mH), rec57 b0 b1 b2 h = some h' → G sc y_Tables_load prog_8_method_2_code 6 none 1 24 57 [(0, .ref b0), (1, .ref b1), (2, .int b2)] [] h none h') (b0 : Nat) (b1 : Nat) (b2 : Int32) (b3 : Int32) (s0 : Nat) (s1 : Int32) (s2 : Int32) (h : mH) (h' : mH) (hf : f_Tables_load_90 rec57 b0 b1 b2 b3 s0 s1 s2 h = some h') : G sc y_Tables_load prog_8_method_2_code 6 none 1 24 90 [(0, .ref b0), (1, .ref b1), (2, .int b2), (3, .int b3)] [.int s2, .int s1, .ref s0] h none h' := by
  unfold f_Tables_load_90 at hf
  obtain ⟨h43, e44, hf⟩ := bd1_e hf
  refine g_iast (pc := 90) d_Tables_load_90 e44 ?_
  refine g_aload_n (pc := 91) 0 d_Tables_load_91 rfl rfl ?_
  obtain ⟨x45, e46, hf⟩ := bd1_e hf
  refine g_get (pc := 92) (ci := 7) (kk := 5) d_Tables_load_92 rfl in_Tables (by decide) wd_241 (gR_spec e46) ?_
  refine g_iload_n (pc := 95) 2 d_Tables_load_95 rfl rfl ?_
  refine g_iload_n (pc := 96) 3 d_Tables_load_96 rfl rfl ?_
  refine g_ifeq (pc := 97) 109 d_Tables_load_97 (by decide) (fun c51 => ?_) (fun c51 => ?_)
  · replace hf := (if_pos c51).symm.trans hf
    refine g_iconst (pc := 109) (0 : Int32) d_Tables_load_109 (by decide) ?_
    refine g_lv [0, 1, 2, 3] rfl ?_
    exact t_Tables_load_110 rec57 hrec57 _ _ _ _ _ _ _ _ _  hf
  · replace hf := (if_neg c51).symm.trans hf
    refine g_aload_n (pc := 100) 1 d_Tables_load_100 rfl rfl ?_
    obtain ⟨x47, e48, hf⟩ := bd1_e hf
    refine g_get (pc := 101) (ci := 4) (kk := 11) d_Tables_load_101 rfl in_Realm (by decide) wd_131 (gR_spec e48) ?_
    refine g_iload_n (pc := 104) 2 d_Tables_load_104 rfl rfl ?_
    obtain ⟨x49, e50, hf⟩ := bd1_e hf
    refine g_iald (pc := 105) d_Tables_load_105 e50 ?_
    refine g_goto (pc := 106) 110 d_Tables_load_106 (by decide) ?_
    refine g_lv [0, 1, 2, 3] rfl ?_
    exact t_Tables_load_110 rec57 hrec57 _ _ _ _ _ _ _ _ _  hf
def f_Tables_load_57b (rec57 : Nat → Nat → Int32 → mH → Option mH) (b0 : Nat) (b1 : Nat) (b2 : Int32) (h : mH) : Option mH :=
  if (3 : Int32) ≤ b2 then
    some h
  else
    bd1 (kC h b1 4) fun _ =>
    bd2 (f_Realm_hasOne b1 b2 h) fun x31 h29 =>
    bd1 (gR h29 b0 7 4) fun x32 =>
    if x31 = 0 then
      f_Tables_load_90 rec57 b0 b1 b2 x31 x32 b2 ((-1) : Int32) h29
    else
      bd1 (gR h29 b1 4 18) fun x34 =>
      bd1 (kC h29 x34 6) fun _ =>
      bd2 (f_Sightings_sumDue x34 (0 : Int32) b2 h29) fun x40 h38 =>
      f_Tables_load_90 rec57 b0 b1 b2 x31 x32 b2 x40 h38
set_option maxRecDepth 20000 in
theorem t_Tables_load_57b {sc : Nat × (Nat → Int32)} (rec57 : Nat → Nat → Int32 → mH → Option mH) (hrec57 : ∀ (b0 : Nat) (b1 : Nat) (b2 : Int32) (h : mH) (h' : mH), rec57 b0 b1 b2 h = some h' → G sc y_Tables_load prog_8_method_2_code 6 none 1 24 57 [(0, .ref b0), (1, .ref b1), (2, .int b2)] [] h none h') (b0 : Nat) (b1 : Nat) (b2 : Int32) (h : mH) (h' : mH) (hf : f_Tables_load_57b rec57 b0 b1 b2 h = some h') : G sc y_Tables_load prog_8_method_2_code 6 none 1 24 57 [(0, .ref b0), (1, .ref b1), (2, .int b2)] [] h none h' := by
  unfold f_Tables_load_57b at hf
  refine g_iload_n (pc := 57) 2 d_Tables_load_57 rfl rfl ?_
  refine g_iconst (pc := 58) (3 : Int32) d_Tables_load_58 (by decide) ?_
  refine g_icmpge (pc := 59) 187 d_Tables_load_59 (by decide) (fun c42 => ?_) (fun c42 => ?_)
  · replace hf := (if_pos c42).symm.trans hf
    obtain rfl := ret1 hf
    exact g_vret (pc := 187) rfl d_Tables_load_187
  · replace hf := (if_neg c42).symm.trans hf
    refine g_aload_n (pc := 62) 1 d_Tables_load_62 rfl rfl ?_
    refine g_iload_n (pc := 63) 2 d_Tables_load_63 rfl rfl ?_
    obtain ⟨u28, e27, hf⟩ := bd1_e hf
    obtain ⟨x31, h29, e30, hf⟩ := bd2_e hf
    refine g_callV (pc := 64) (ci := 4) [.int b2] (site_of si_Realm_hasOne (by decide) (by decide)) wd_793 wd_492 wd_493 d_Tables_load_64 rfl e27 (Nat.le_of_ble_eq_true rfl) (fun z => absurd z (by decide)) (fun z => absurd z (by decide)) (fun z => absurd z (by decide)) (c_Realm_hasOne e30) rfl ?_
    refine g_st [.int x31] rfl ?_
    refine g_istore_n (pc := 67) [(3, .int x31), (0, .ref b0), (1, .ref b1), (2, .int b2)] d_Tables_load_67 rfl (Nat.le_of_ble_eq_true rfl) rfl ?_
    refine g_aload_n (pc := 68) 1 d_Tables_load_68 rfl rfl ?_
    obtain ⟨x32, e33, hf⟩ := bd1_e hf
    refine g_get (pc := 69) (ci := 7) (kk := 4) d_Tables_load_69 rfl in_Tables (by decide) wd_240 (gR_spec e33) ?_
    refine g_iload_n (pc := 72) 3 d_Tables_load_72 rfl rfl ?_
    refine g_iload_n (pc := 73) 0 d_Tables_load_73 rfl rfl ?_
    refine g_ifeq (pc := 74) 89 d_Tables_load_74 (by decide) (fun c41 => ?_) (fun c41 => ?_)
    · replace hf := (if_pos c41).symm.trans hf
      refine g_iconst (pc := 89) ((-1) : Int32) d_Tables_load_89 (by decide) ?_
      refine g_lv [1, 2, 3, 0] rfl ?_
      exact t_Tables_load_90 rec57 hrec57 _ _ _ _ _ _ _ _ _  hf
    · replace hf := (if_neg c41).symm.trans hf
      refine g_aload_n (pc := 77) 2 d_Tables_load_77 rfl rfl ?_
      obtain ⟨x34, e35, hf⟩ := bd1_e hf
      refine g_get (pc := 78) (ci := 4) (kk := 18) d_Tables_load_78 rfl in_Realm (by decide) wd_154 (gR_spec e35) ?_
      refine g_iconst (pc := 81) (0 : Int32) d_Tables_load_81 (by decide) ?_
      refine g_iload_n (pc := 82) 3 d_Tables_load_82 rfl rfl ?_
      obtain ⟨u37, e36, hf⟩ := bd1_e hf
      obtain ⟨x40, h38, e39, hf⟩ := bd2_e hf
      refine g_callV (pc := 83) (ci := 6) [.int (0 : Int32), .int b2] (site_of si_Sightings_sumDue (by decide) (by decide)) wd_789 wd_790 wd_791 d_Tables_load_83 rfl e36 (Nat.le_of_ble_eq_true rfl) (fun z => absurd z (by decide)) (fun z => absurd z (by decide)) (fun z => absurd z (by decide)) (c_Sightings_sumDue e39) rfl ?_
      refine g_st [.int x40, .int b2, .ref x32] rfl ?_
      refine g_goto (pc := 86) 90 d_Tables_load_86 (by decide) ?_
      refine g_lv [1, 2, 3, 0] rfl ?_
      exact t_Tables_load_90 rec57 hrec57 _ _ _ _ _ _ _ _ _  hf
def f_Tables_load_57  : Nat → Nat → Nat → Int32 → mH → Option mH
  | 0 => fun _ _ _ _ => none
  | n + 1 => f_Tables_load_57b  (f_Tables_load_57  n)
theorem t_Tables_load_57 {sc : Nat × (Nat → Int32)}  : ∀ (n : Nat) (b0 : Nat) (b1 : Nat) (b2 : Int32) (h : mH) (h' : mH) (hf : f_Tables_load_57  n b0 b1 b2 h = some h'), G sc y_Tables_load prog_8_method_2_code 6 none 1 24 57 [(0, .ref b0), (1, .ref b1), (2, .int b2)] [] h none h'
  | 0, _, _, _, _, _, hf => by cases hf
  | n + 1, _, _, _, _, _, hf => t_Tables_load_57b  (f_Tables_load_57  n) (t_Tables_load_57  n) _ _ _ _ _ hf
def f_Tables_load_26b (rec26 : Nat → Nat → Int32 → mH → Option mH) (b0 : Nat) (b1 : Nat) (b2 : Int32) (h : mH) : Option mH :=
  bd1 (gI h b0 7 0) fun x13 =>
  if x13 ≤ b2 then
    f_Tables_load_57  FU b0 b1 (0 : Int32) h
  else
    bd1 (gR h b0 7 3) fun x15 =>
    bd1 (gR h b1 4 18) fun x17 =>
    bd1 (kC h x17 6) fun _ =>
    bd2 (f_Sightings_sumDue x17 (1 : Int32) b2 h) fun x23 h21 =>
    bd1 (sI h21 0 x15 b2 x23) fun h24 =>
    rec26 b0 b1 (b2 + (1 : Int32)) h24
set_option maxRecDepth 20000 in
theorem t_Tables_load_26b {sc : Nat × (Nat → Int32)} (rec26 : Nat → Nat → Int32 → mH → Option mH) (hrec26 : ∀ (b0 : Nat) (b1 : Nat) (b2 : Int32) (h : mH) (h' : mH), rec26 b0 b1 b2 h = some h' → G sc y_Tables_load prog_8_method_2_code 6 none 1 24 26 [(0, .ref b0), (1, .ref b1), (2, .int b2)] [] h none h') (b0 : Nat) (b1 : Nat) (b2 : Int32) (h : mH) (h' : mH) (hf : f_Tables_load_26b rec26 b0 b1 b2 h = some h') : G sc y_Tables_load prog_8_method_2_code 6 none 1 24 26 [(0, .ref b0), (1, .ref b1), (2, .int b2)] [] h none h' := by
  unfold f_Tables_load_26b at hf
  refine g_iload_n (pc := 26) 2 d_Tables_load_26 rfl rfl ?_
  refine g_aload_n (pc := 27) 0 d_Tables_load_27 rfl rfl ?_
  obtain ⟨x13, e14, hf⟩ := bd1_e hf
  refine g_get (pc := 28) (ci := 7) (kk := 0) d_Tables_load_28 rfl in_Tables (by decide) wd_236 (gI_spec e14) ?_
  refine g_icmpge (pc := 31) 55 d_Tables_load_31 (by decide) (fun c26 => ?_) (fun c26 => ?_)
  · replace hf := (if_pos c26).symm.trans hf
    refine g_iconst (pc := 55) (0 : Int32) d_Tables_load_55 (by decide) ?_
    refine g_istore_n (pc := 56) [(2, .int (0 : Int32)), (0, .ref b0), (1, .ref b1)] d_Tables_load_56 rfl (Nat.le_of_ble_eq_true rfl) rfl ?_
    refine g_lv [1, 2, 0] rfl ?_
    exact t_Tables_load_57  FU _ _ _ _ _  hf
  · replace hf := (if_neg c26).symm.trans hf
    refine g_aload_n (pc := 34) 0 d_Tables_load_34 rfl rfl ?_
    obtain ⟨x15, e16, hf⟩ := bd1_e hf
    refine g_get (pc := 35) (ci := 7) (kk := 3) d_Tables_load_35 rfl in_Tables (by decide) wd_239 (gR_spec e16) ?_
    refine g_iload_n (pc := 38) 2 d_Tables_load_38 rfl rfl ?_
    refine g_aload_n (pc := 39) 1 d_Tables_load_39 rfl rfl ?_
    obtain ⟨x17, e18, hf⟩ := bd1_e hf
    refine g_get (pc := 40) (ci := 4) (kk := 18) d_Tables_load_40 rfl in_Realm (by decide) wd_154 (gR_spec e18) ?_
    refine g_iconst (pc := 43) (1 : Int32) d_Tables_load_43 (by decide) ?_
    refine g_iload_n (pc := 44) 2 d_Tables_load_44 rfl rfl ?_
    obtain ⟨u20, e19, hf⟩ := bd1_e hf
    obtain ⟨x23, h21, e22, hf⟩ := bd2_e hf
    refine g_callV (pc := 45) (ci := 6) [.int (1 : Int32), .int b2] (site_of si_Sightings_sumDue (by decide) (by decide)) wd_789 wd_790 wd_791 d_Tables_load_45 rfl e19 (Nat.le_of_ble_eq_true rfl) (fun z => absurd z (by decide)) (fun z => absurd z (by decide)) (fun z => absurd z (by decide)) (c_Sightings_sumDue e22) rfl ?_
    refine g_st [.int x23, .int b2, .ref x15] rfl ?_
    obtain ⟨h24, e25, hf⟩ := bd1_e hf
    refine g_iast (pc := 48) d_Tables_load_48 e25 ?_
    refine g_iinc (pc := 49) 2 (b2 + (1 : Int32)) [(2, .int (b2 + (1 : Int32))), (0, .ref b0), (1, .ref b1)] d_Tables_load_49 rfl rfl (Nat.le_of_ble_eq_true rfl) rfl ?_
    refine g_goto (pc := 52) 26 d_Tables_load_52 (by decide) ?_
    refine g_lv [1, 2, 0] rfl ?_
    exact hrec26 _ _ _ _ _  hf
def f_Tables_load_26  : Nat → Nat → Nat → Int32 → mH → Option mH
  | 0 => fun _ _ _ _ => none
  | n + 1 => f_Tables_load_26b  (f_Tables_load_26  n)
theorem t_Tables_load_26 {sc : Nat × (Nat → Int32)}  : ∀ (n : Nat) (b0 : Nat) (b1 : Nat) (b2 : Int32) (h : mH) (h' : mH) (hf : f_Tables_load_26  n b0 b1 b2 h = some h'), G sc y_Tables_load prog_8_method_2_code 6 none 1 24 26 [(0, .ref b0), (1, .ref b1), (2, .int b2)] [] h none h'
  | 0, _, _, _, _, _, hf => by cases hf
  | n + 1, _, _, _, _, _, hf => t_Tables_load_26b  (f_Tables_load_26  n) (t_Tables_load_26  n) _ _ _ _ _ hf
def f_Tables_load_0  (a0 : Nat) (a1 : Nat) (h : mH) : Option mH :=
  bd1 (gI h a1 4 0) fun x1 =>
  bd1 (pV h a0 7 0 (.int x1)) fun h3 =>
  bd1 (gR h3 a0 7 1) fun x5 =>
  bd1 (f_Arrays_fillI x5 (0 : Int32) h3) fun h7 =>
  bd1 (gR h7 a0 7 2) fun x9 =>
  bd1 (f_Arrays_fillI x9 (0 : Int32) h7) fun h11 =>
  f_Tables_load_26  FU a0 a1 (0 : Int32) h11
set_option maxRecDepth 20000 in
theorem t_Tables_load_0 {sc : Nat × (Nat → Int32)}  (a0 : Nat) (a1 : Nat) (h : mH) (h' : mH) (hf : f_Tables_load_0  a0 a1 h = some h') : G sc y_Tables_load prog_8_method_2_code 6 none 1 24 0 [(0, .ref a0), (1, .ref a1)] [] h none h' := by
  unfold f_Tables_load_0 at hf
  refine g_aload_n (pc := 0) 0 d_Tables_load_0 rfl rfl ?_
  refine g_aload_n (pc := 1) 1 d_Tables_load_1 rfl rfl ?_
  obtain ⟨x1, e2, hf⟩ := bd1_e hf
  refine g_get (pc := 2) (ci := 4) (kk := 0) d_Tables_load_2 rfl in_Realm (by decide) wd_95 (gI_spec e2) ?_
  obtain ⟨h3, e4, hf⟩ := bd1_e hf
  refine g_put (pc := 5) (ci := 7) (kk := 0) ty_Tables tyok_Tables nm_Tables d_Tables_load_5 rfl in_Tables (by decide) wd_236 rfl (fun _ => rfl) (fun _ => rfl) (fun _ z => by cases z) e4 ?_
  refine g_aload_n (pc := 8) 0 d_Tables_load_8 rfl rfl ?_
  obtain ⟨x5, e6, hf⟩ := bd1_e hf
  refine g_get (pc := 9) (ci := 7) (kk := 1) d_Tables_load_9 rfl in_Tables (by decide) wd_237 (gR_spec e6) ?_
  refine g_iconst (pc := 12) (0 : Int32) d_Tables_load_12 (by decide) ?_
  obtain ⟨h7, e8, hf⟩ := bd1_e hf
  refine g_callS (pc := 13) [.ref x5, .int (0 : Int32)] (site_of si_Arrays_fillI (by decide) (by decide)) wd_788 wd_355 d_Tables_load_13 (Nat.le_of_ble_eq_true rfl) (fun z => absurd z (by decide)) (fun z => absurd z (by decide)) (fun z => absurd z (by decide)) (c_Arrays_fillI e8) rfl ?_
  refine g_st [] rfl ?_
  refine g_aload_n (pc := 16) 0 d_Tables_load_16 rfl rfl ?_
  obtain ⟨x9, e10, hf⟩ := bd1_e hf
  refine g_get (pc := 17) (ci := 7) (kk := 2) d_Tables_load_17 rfl in_Tables (by decide) wd_238 (gR_spec e10) ?_
  refine g_iconst (pc := 20) (0 : Int32) d_Tables_load_20 (by decide) ?_
  obtain ⟨h11, e12, hf⟩ := bd1_e hf
  refine g_callS (pc := 21) [.ref x9, .int (0 : Int32)] (site_of si_Arrays_fillI (by decide) (by decide)) wd_788 wd_355 d_Tables_load_21 (Nat.le_of_ble_eq_true rfl) (fun z => absurd z (by decide)) (fun z => absurd z (by decide)) (fun z => absurd z (by decide)) (c_Arrays_fillI e12) rfl ?_
  refine g_st [] rfl ?_
  refine g_iconst (pc := 24) (0 : Int32) d_Tables_load_24 (by decide) ?_
  refine g_istore_n (pc := 25) [(2, .int (0 : Int32)), (0, .ref a0), (1, .ref a1)] d_Tables_load_25 rfl (Nat.le_of_ble_eq_true rfl) rfl ?_
  refine g_lv [1, 2, 0] rfl ?_
  exact t_Tables_load_26  FU _ _ _ _ _  hf
def f_Tables_load (a0 : Nat) (a1 : Nat) (h : mH) : Option mH := f_Tables_load_0 a0 a1 h
theorem c_Tables_load {sc : Nat × (Nat → Int32)} {a0 : Nat} {a1 : Nat} {h : mH} {h' : mH} (hf : f_Tables_load a0 a1 h = some h') : MM sc y_Tables_load prog_8_method_2_code 6 none 1 24 [.ref a0, .ref a1] h none h' :=
  mm_of_G (by decide) (Nat.le_of_ble_eq_true rfl) (t_Tables_load_0 _ _ _ _ hf)
/-! Tables spendAlone (II)V -/
set_option maxRecDepth 100000 in
theorem dd_Tables_spendAlone_0 : (decode prog_8_method_5_code 0 = .ok (.aload_n 0, 1)) ∧ (decode prog_8_method_5_code 1 = .ok (.getfield 9, 3)) ∧ (decode prog_8_method_5_code 4 = .ok (.iload_n 1, 1)) ∧ (decode prog_8_method_5_code 5 = .ok (.iconst 5, 1)) ∧ (decode prog_8_method_5_code 6 = .ok (.imul, 1)) ∧ (decode prog_8_method_5_code 7 = .ok (.iload_n 2, 1)) ∧ (decode prog_8_method_5_code 8 = .ok (.iadd, 1)) ∧ (decode prog_8_method_5_code 9 = .ok (.iaload, 1)) ∧ (decode prog_8_method_5_code 10 = .ok (.istore_n 3, 1)) ∧ (decode prog_8_method_5_code 11 = .ok (.aload_n 0, 1)) ∧ (decode prog_8_method_5_code 12 = .ok (.getfield 15, 3)) ∧ (decode prog_8_method_5_code 15 = .ok (.iload_n 1, 1)) ∧ (decode prog_8_method_5_code 16 = .ok (.iconst 5, 1)) ∧ (decode prog_8_method_5_code 17 = .ok (.imul, 1)) ∧ (decode prog_8_method_5_code 18 = .ok (.iload_n 2, 1)) ∧ (decode prog_8_method_5_code 19 = .ok (.iadd, 1)) ∧ (decode prog_8_method_5_code 20 = .ok (.iaload, 1)) ∧ (decode prog_8_method_5_code 21 = .ok (.istore 4, 2)) ∧ (decode prog_8_method_5_code 23 = .ok (.aload_n 0, 1)) ∧ (decode prog_8_method_5_code 24 = .ok (.getfield 24, 3)) ∧ (decode prog_8_method_5_code 27 = .ok (.iload_n 1, 1)) ∧ (decode prog_8_method_5_code 28 = .ok (.iaload, 1)) ∧ (decode prog_8_method_5_code 29 = .ok (.istore 5, 2)) ∧ (decode prog_8_method_5_code 31 = .ok (.iload 5, 2)) := by
  have h : List.drop 0 prog_8_method_5_code.data.toList = 0x2a :: _ := rfl
  refine ⟨zq_k_n 42 h rfl (zq_o_42 _), ?_⟩
  replace h := zq_nx1 (q := 1) h rfl
  refine ⟨zq_k_u2 180 (fun z => .getfield z) 9 h rfl (zq_o_180 _) (by decide +kernel), ?_⟩
  replace h := zq_nx3 (q := 4) h rfl
  refine ⟨zq_k_n 27 h rfl (zq_o_27 _), ?_⟩
  replace h := zq_nx1 (q := 5) h rfl
  refine ⟨zq_k_n 8 h rfl (zq_o_8 _), ?_⟩
  replace h := zq_nx1 (q := 6) h rfl
  refine ⟨zq_k_n 104 h rfl (zq_o_104 _), ?_⟩
  replace h := zq_nx1 (q := 7) h rfl
  refine ⟨zq_k_n 28 h rfl (zq_o_28 _), ?_⟩
  replace h := zq_nx1 (q := 8) h rfl
  refine ⟨zq_k_n 96 h rfl (zq_o_96 _), ?_⟩
  replace h := zq_nx1 (q := 9) h rfl
  refine ⟨zq_k_n 46 h rfl (zq_o_46 _), ?_⟩
  replace h := zq_nx1 (q := 10) h rfl
  refine ⟨zq_k_n 62 h rfl (zq_o_62 _), ?_⟩
  replace h := zq_nx1 (q := 11) h rfl
  refine ⟨zq_k_n 42 h rfl (zq_o_42 _), ?_⟩
  replace h := zq_nx1 (q := 12) h rfl
  refine ⟨zq_k_u2 180 (fun z => .getfield z) 15 h rfl (zq_o_180 _) (by decide +kernel), ?_⟩
  replace h := zq_nx3 (q := 15) h rfl
  refine ⟨zq_k_n 27 h rfl (zq_o_27 _), ?_⟩
  replace h := zq_nx1 (q := 16) h rfl
  refine ⟨zq_k_n 8 h rfl (zq_o_8 _), ?_⟩
  replace h := zq_nx1 (q := 17) h rfl
  refine ⟨zq_k_n 104 h rfl (zq_o_104 _), ?_⟩
  replace h := zq_nx1 (q := 18) h rfl
  refine ⟨zq_k_n 28 h rfl (zq_o_28 _), ?_⟩
  replace h := zq_nx1 (q := 19) h rfl
  refine ⟨zq_k_n 96 h rfl (zq_o_96 _), ?_⟩
  replace h := zq_nx1 (q := 20) h rfl
  refine ⟨zq_k_n 46 h rfl (zq_o_46 _), ?_⟩
  replace h := zq_nx1 (q := 21) h rfl
  refine ⟨zq_k_u1 54 (fun z => .istore z) 4 h rfl (zq_o_54 _) (by decide +kernel), ?_⟩
  replace h := zq_nx2 (q := 23) h rfl
  refine ⟨zq_k_n 42 h rfl (zq_o_42 _), ?_⟩
  replace h := zq_nx1 (q := 24) h rfl
  refine ⟨zq_k_u2 180 (fun z => .getfield z) 24 h rfl (zq_o_180 _) (by decide +kernel), ?_⟩
  replace h := zq_nx3 (q := 27) h rfl
  refine ⟨zq_k_n 27 h rfl (zq_o_27 _), ?_⟩
  replace h := zq_nx1 (q := 28) h rfl
  refine ⟨zq_k_n 46 h rfl (zq_o_46 _), ?_⟩
  replace h := zq_nx1 (q := 29) h rfl
  refine ⟨zq_k_u1 54 (fun z => .istore z) 5 h rfl (zq_o_54 _) (by decide +kernel), ?_⟩
  replace h := zq_nx2 (q := 31) h rfl
  exact zq_k_u1 21 (fun z => .iload z) 5 h rfl (zq_o_21 _) (by decide +kernel)
theorem d_Tables_spendAlone_0 : decode prog_8_method_5_code 0 = .ok (.aload_n 0, 1) := dd_Tables_spendAlone_0.1
theorem d_Tables_spendAlone_1 : decode prog_8_method_5_code 1 = .ok (.getfield 9, 3) := dd_Tables_spendAlone_0.2.1
theorem d_Tables_spendAlone_4 : decode prog_8_method_5_code 4 = .ok (.iload_n 1, 1) := dd_Tables_spendAlone_0.2.2.1
theorem d_Tables_spendAlone_5 : decode prog_8_method_5_code 5 = .ok (.iconst 5, 1) := dd_Tables_spendAlone_0.2.2.2.1
theorem d_Tables_spendAlone_6 : decode prog_8_method_5_code 6 = .ok (.imul, 1) := dd_Tables_spendAlone_0.2.2.2.2.1
theorem d_Tables_spendAlone_7 : decode prog_8_method_5_code 7 = .ok (.iload_n 2, 1) := dd_Tables_spendAlone_0.2.2.2.2.2.1
theorem d_Tables_spendAlone_8 : decode prog_8_method_5_code 8 = .ok (.iadd, 1) := dd_Tables_spendAlone_0.2.2.2.2.2.2.1
theorem d_Tables_spendAlone_9 : decode prog_8_method_5_code 9 = .ok (.iaload, 1) := dd_Tables_spendAlone_0.2.2.2.2.2.2.2.1
theorem d_Tables_spendAlone_10 : decode prog_8_method_5_code 10 = .ok (.istore_n 3, 1) := dd_Tables_spendAlone_0.2.2.2.2.2.2.2.2.1
theorem d_Tables_spendAlone_11 : decode prog_8_method_5_code 11 = .ok (.aload_n 0, 1) := dd_Tables_spendAlone_0.2.2.2.2.2.2.2.2.2.1
theorem d_Tables_spendAlone_12 : decode prog_8_method_5_code 12 = .ok (.getfield 15, 3) := dd_Tables_spendAlone_0.2.2.2.2.2.2.2.2.2.2.1
theorem d_Tables_spendAlone_15 : decode prog_8_method_5_code 15 = .ok (.iload_n 1, 1) := dd_Tables_spendAlone_0.2.2.2.2.2.2.2.2.2.2.2.1
theorem d_Tables_spendAlone_16 : decode prog_8_method_5_code 16 = .ok (.iconst 5, 1) := dd_Tables_spendAlone_0.2.2.2.2.2.2.2.2.2.2.2.2.1
theorem d_Tables_spendAlone_17 : decode prog_8_method_5_code 17 = .ok (.imul, 1) := dd_Tables_spendAlone_0.2.2.2.2.2.2.2.2.2.2.2.2.2.1
theorem d_Tables_spendAlone_18 : decode prog_8_method_5_code 18 = .ok (.iload_n 2, 1) := dd_Tables_spendAlone_0.2.2.2.2.2.2.2.2.2.2.2.2.2.2.1
theorem d_Tables_spendAlone_19 : decode prog_8_method_5_code 19 = .ok (.iadd, 1) := dd_Tables_spendAlone_0.2.2.2.2.2.2.2.2.2.2.2.2.2.2.2.1
theorem d_Tables_spendAlone_20 : decode prog_8_method_5_code 20 = .ok (.iaload, 1) := dd_Tables_spendAlone_0.2.2.2.2.2.2.2.2.2.2.2.2.2.2.2.2.1
theorem d_Tables_spendAlone_21 : decode prog_8_method_5_code 21 = .ok (.istore 4, 2) := dd_Tables_spendAlone_0.2.2.2.2.2.2.2.2.2.2.2.2.2.2.2.2.2.1
theorem d_Tables_spendAlone_23 : decode prog_8_method_5_code 23 = .ok (.aload_n 0, 1) := dd_Tables_spendAlone_0.2.2.2.2.2.2.2.2.2.2.2.2.2.2.2.2.2.2.1
theorem d_Tables_spendAlone_24 : decode prog_8_method_5_code 24 = .ok (.getfield 24, 3) := dd_Tables_spendAlone_0.2.2.2.2.2.2.2.2.2.2.2.2.2.2.2.2.2.2.2.1
theorem d_Tables_spendAlone_27 : decode prog_8_method_5_code 27 = .ok (.iload_n 1, 1) := dd_Tables_spendAlone_0.2.2.2.2.2.2.2.2.2.2.2.2.2.2.2.2.2.2.2.2.1
theorem d_Tables_spendAlone_28 : decode prog_8_method_5_code 28 = .ok (.iaload, 1) := dd_Tables_spendAlone_0.2.2.2.2.2.2.2.2.2.2.2.2.2.2.2.2.2.2.2.2.2.1
theorem d_Tables_spendAlone_29 : decode prog_8_method_5_code 29 = .ok (.istore 5, 2) := dd_Tables_spendAlone_0.2.2.2.2.2.2.2.2.2.2.2.2.2.2.2.2.2.2.2.2.2.2.1
theorem d_Tables_spendAlone_31 : decode prog_8_method_5_code 31 = .ok (.iload 5, 2) := dd_Tables_spendAlone_0.2.2.2.2.2.2.2.2.2.2.2.2.2.2.2.2.2.2.2.2.2.2.2
set_option maxRecDepth 100000 in
theorem dd_Tables_spendAlone_33 : (decode prog_8_method_5_code 33 = .ok (.ifCond .lt 69, 3)) ∧ (decode prog_8_method_5_code 36 = .ok (.lconst 0, 1)) ∧ (decode prog_8_method_5_code 37 = .ok (.lstore 6, 2)) ∧ (decode prog_8_method_5_code 39 = .ok (.iload_n 3, 1)) ∧ (decode prog_8_method_5_code 40 = .ok (.istore 8, 2)) ∧ (decode prog_8_method_5_code 42 = .ok (.iload 8, 2)) ∧ (decode prog_8_method_5_code 44 = .ok (.iload 4, 2)) ∧ (decode prog_8_method_5_code 46 = .ok (.if_icmp .gt 36, 3)) ∧ (decode prog_8_method_5_code 49 = .ok (.iload 8, 2)) ∧ (decode prog_8_method_5_code 51 = .ok (.iload 5, 2)) ∧ (decode prog_8_method_5_code 53 = .ok (.if_icmp .gt 29, 3)) ∧ (decode prog_8_method_5_code 56 = .ok (.lload 6, 2)) ∧ (decode prog_8_method_5_code 58 = .ok (.aload_n 0, 1)) ∧ (decode prog_8_method_5_code 59 = .ok (.getfield 27, 3)) ∧ (decode prog_8_method_5_code 62 = .ok (.iload_n 1, 1)) ∧ (decode prog_8_method_5_code 63 = .ok (.bipush 6, 2)) ∧ (decode prog_8_method_5_code 65 = .ok (.imul, 1)) ∧ (decode prog_8_method_5_code 66 = .ok (.iload 5, 2)) ∧ (decode prog_8_method_5_code 68 = .ok (.iadd, 1)) ∧ (decode prog_8_method_5_code 69 = .ok (.iload 8, 2)) ∧ (decode prog_8_method_5_code 71 = .ok (.isub, 1)) ∧ (decode prog_8_method_5_code 72 = .ok (.laload, 1)) ∧ (decode prog_8_method_5_code 73 = .ok (.ladd, 1)) ∧ (decode prog_8_method_5_code 74 = .ok (.lstore 6, 2)) := by
  have h : List.drop 33 prog_8_method_5_code.data.toList = 0x9b :: _ := rfl
  refine ⟨zq_k_s2 155 (fun z => .ifCond .lt z) 69 h rfl (zq_o_155 _) (by decide +kernel), ?_⟩
  replace h := zq_nx3 (q := 36) h rfl
  refine ⟨zq_k_n 9 h rfl (zq_o_9 _), ?_⟩
  replace h := zq_nx1 (q := 37) h rfl
  refine ⟨zq_k_u1 55 (fun z => .lstore z) 6 h rfl (zq_o_55 _) (by decide +kernel), ?_⟩
  replace h := zq_nx2 (q := 39) h rfl
  refine ⟨zq_k_n 29 h rfl (zq_o_29 _), ?_⟩
  replace h := zq_nx1 (q := 40) h rfl
  refine ⟨zq_k_u1 54 (fun z => .istore z) 8 h rfl (zq_o_54 _) (by decide +kernel), ?_⟩
  replace h := zq_nx2 (q := 42) h rfl
  refine ⟨zq_k_u1 21 (fun z => .iload z) 8 h rfl (zq_o_21 _) (by decide +kernel), ?_⟩
  replace h := zq_nx2 (q := 44) h rfl
  refine ⟨zq_k_u1 21 (fun z => .iload z) 4 h rfl (zq_o_21 _) (by decide +kernel), ?_⟩
  replace h := zq_nx2 (q := 46) h rfl
  refine ⟨zq_k_s2 163 (fun z => .if_icmp .gt z) 36 h rfl (zq_o_163 _) (by decide +kernel), ?_⟩
  replace h := zq_nx3 (q := 49) h rfl
  refine ⟨zq_k_u1 21 (fun z => .iload z) 8 h rfl (zq_o_21 _) (by decide +kernel), ?_⟩
  replace h := zq_nx2 (q := 51) h rfl
  refine ⟨zq_k_u1 21 (fun z => .iload z) 5 h rfl (zq_o_21 _) (by decide +kernel), ?_⟩
  replace h := zq_nx2 (q := 53) h rfl
  refine ⟨zq_k_s2 163 (fun z => .if_icmp .gt z) 29 h rfl (zq_o_163 _) (by decide +kernel), ?_⟩
  replace h := zq_nx3 (q := 56) h rfl
  refine ⟨zq_k_u1 22 (fun z => .lload z) 6 h rfl (zq_o_22 _) (by decide +kernel), ?_⟩
  replace h := zq_nx2 (q := 58) h rfl
  refine ⟨zq_k_n 42 h rfl (zq_o_42 _), ?_⟩
  replace h := zq_nx1 (q := 59) h rfl
  refine ⟨zq_k_u2 180 (fun z => .getfield z) 27 h rfl (zq_o_180 _) (by decide +kernel), ?_⟩
  replace h := zq_nx3 (q := 62) h rfl
  refine ⟨zq_k_n 27 h rfl (zq_o_27 _), ?_⟩
  replace h := zq_nx1 (q := 63) h rfl
  refine ⟨zq_k_s1 16 (fun z => .bipush z) 6 h rfl (zq_o_16 _) (by decide +kernel), ?_⟩
  replace h := zq_nx2 (q := 65) h rfl
  refine ⟨zq_k_n 104 h rfl (zq_o_104 _), ?_⟩
  replace h := zq_nx1 (q := 66) h rfl
  refine ⟨zq_k_u1 21 (fun z => .iload z) 5 h rfl (zq_o_21 _) (by decide +kernel), ?_⟩
  replace h := zq_nx2 (q := 68) h rfl
  refine ⟨zq_k_n 96 h rfl (zq_o_96 _), ?_⟩
  replace h := zq_nx1 (q := 69) h rfl
  refine ⟨zq_k_u1 21 (fun z => .iload z) 8 h rfl (zq_o_21 _) (by decide +kernel), ?_⟩
  replace h := zq_nx2 (q := 71) h rfl
  refine ⟨zq_k_n 100 h rfl (zq_o_100 _), ?_⟩
  replace h := zq_nx1 (q := 72) h rfl
  refine ⟨zq_k_n 47 h rfl (zq_o_47 _), ?_⟩
  replace h := zq_nx1 (q := 73) h rfl
  refine ⟨zq_k_n 97 h rfl (zq_o_97 _), ?_⟩
  replace h := zq_nx1 (q := 74) h rfl
  exact zq_k_u1 55 (fun z => .lstore z) 6 h rfl (zq_o_55 _) (by decide +kernel)
theorem d_Tables_spendAlone_33 : decode prog_8_method_5_code 33 = .ok (.ifCond .lt 69, 3) := dd_Tables_spendAlone_33.1
theorem d_Tables_spendAlone_36 : decode prog_8_method_5_code 36 = .ok (.lconst 0, 1) := dd_Tables_spendAlone_33.2.1
theorem d_Tables_spendAlone_37 : decode prog_8_method_5_code 37 = .ok (.lstore 6, 2) := dd_Tables_spendAlone_33.2.2.1
theorem d_Tables_spendAlone_39 : decode prog_8_method_5_code 39 = .ok (.iload_n 3, 1) := dd_Tables_spendAlone_33.2.2.2.1
theorem d_Tables_spendAlone_40 : decode prog_8_method_5_code 40 = .ok (.istore 8, 2) := dd_Tables_spendAlone_33.2.2.2.2.1
theorem d_Tables_spendAlone_42 : decode prog_8_method_5_code 42 = .ok (.iload 8, 2) := dd_Tables_spendAlone_33.2.2.2.2.2.1
theorem d_Tables_spendAlone_44 : decode prog_8_method_5_code 44 = .ok (.iload 4, 2) := dd_Tables_spendAlone_33.2.2.2.2.2.2.1
theorem d_Tables_spendAlone_46 : decode prog_8_method_5_code 46 = .ok (.if_icmp .gt 36, 3) := dd_Tables_spendAlone_33.2.2.2.2.2.2.2.1
theorem d_Tables_spendAlone_49 : decode prog_8_method_5_code 49 = .ok (.iload 8, 2) := dd_Tables_spendAlone_33.2.2.2.2.2.2.2.2.1
theorem d_Tables_spendAlone_51 : decode prog_8_method_5_code 51 = .ok (.iload 5, 2) := dd_Tables_spendAlone_33.2.2.2.2.2.2.2.2.2.1
theorem d_Tables_spendAlone_53 : decode prog_8_method_5_code 53 = .ok (.if_icmp .gt 29, 3) := dd_Tables_spendAlone_33.2.2.2.2.2.2.2.2.2.2.1
theorem d_Tables_spendAlone_56 : decode prog_8_method_5_code 56 = .ok (.lload 6, 2) := dd_Tables_spendAlone_33.2.2.2.2.2.2.2.2.2.2.2.1
theorem d_Tables_spendAlone_58 : decode prog_8_method_5_code 58 = .ok (.aload_n 0, 1) := dd_Tables_spendAlone_33.2.2.2.2.2.2.2.2.2.2.2.2.1
theorem d_Tables_spendAlone_59 : decode prog_8_method_5_code 59 = .ok (.getfield 27, 3) := dd_Tables_spendAlone_33.2.2.2.2.2.2.2.2.2.2.2.2.2.1
theorem d_Tables_spendAlone_62 : decode prog_8_method_5_code 62 = .ok (.iload_n 1, 1) := dd_Tables_spendAlone_33.2.2.2.2.2.2.2.2.2.2.2.2.2.2.1
theorem d_Tables_spendAlone_63 : decode prog_8_method_5_code 63 = .ok (.bipush 6, 2) := dd_Tables_spendAlone_33.2.2.2.2.2.2.2.2.2.2.2.2.2.2.2.1
theorem d_Tables_spendAlone_65 : decode prog_8_method_5_code 65 = .ok (.imul, 1) := dd_Tables_spendAlone_33.2.2.2.2.2.2.2.2.2.2.2.2.2.2.2.2.1
theorem d_Tables_spendAlone_66 : decode prog_8_method_5_code 66 = .ok (.iload 5, 2) := dd_Tables_spendAlone_33.2.2.2.2.2.2.2.2.2.2.2.2.2.2.2.2.2.1
theorem d_Tables_spendAlone_68 : decode prog_8_method_5_code 68 = .ok (.iadd, 1) := dd_Tables_spendAlone_33.2.2.2.2.2.2.2.2.2.2.2.2.2.2.2.2.2.2.1
theorem d_Tables_spendAlone_69 : decode prog_8_method_5_code 69 = .ok (.iload 8, 2) := dd_Tables_spendAlone_33.2.2.2.2.2.2.2.2.2.2.2.2.2.2.2.2.2.2.2.1
theorem d_Tables_spendAlone_71 : decode prog_8_method_5_code 71 = .ok (.isub, 1) := dd_Tables_spendAlone_33.2.2.2.2.2.2.2.2.2.2.2.2.2.2.2.2.2.2.2.2.1
theorem d_Tables_spendAlone_72 : decode prog_8_method_5_code 72 = .ok (.laload, 1) := dd_Tables_spendAlone_33.2.2.2.2.2.2.2.2.2.2.2.2.2.2.2.2.2.2.2.2.2.1
theorem d_Tables_spendAlone_73 : decode prog_8_method_5_code 73 = .ok (.ladd, 1) := dd_Tables_spendAlone_33.2.2.2.2.2.2.2.2.2.2.2.2.2.2.2.2.2.2.2.2.2.2.1
theorem d_Tables_spendAlone_74 : decode prog_8_method_5_code 74 = .ok (.lstore 6, 2) := dd_Tables_spendAlone_33.2.2.2.2.2.2.2.2.2.2.2.2.2.2.2.2.2.2.2.2.2.2.2
set_option maxRecDepth 100000 in
theorem dd_Tables_spendAlone_76 : (decode prog_8_method_5_code 76 = .ok (.iinc 8 1, 3)) ∧ (decode prog_8_method_5_code 79 = .ok (.goto (-37), 3)) ∧ (decode prog_8_method_5_code 82 = .ok (.aload_n 0, 1)) ∧ (decode prog_8_method_5_code 83 = .ok (.getfield 27, 3)) ∧ (decode prog_8_method_5_code 86 = .ok (.iload_n 1, 1)) ∧ (decode prog_8_method_5_code 87 = .ok (.bipush 6, 2)) ∧ (decode prog_8_method_5_code 89 = .ok (.imul, 1)) ∧ (decode prog_8_method_5_code 90 = .ok (.iload 5, 2)) ∧ (decode prog_8_method_5_code 92 = .ok (.iadd, 1)) ∧ (decode prog_8_method_5_code 93 = .ok (.lload 6, 2)) ∧ (decode prog_8_method_5_code 95 = .ok (.lastore, 1)) ∧ (decode prog_8_method_5_code 96 = .ok (.iinc 5 (-1), 3)) ∧ (decode prog_8_method_5_code 99 = .ok (.goto (-68), 3)) ∧ (decode prog_8_method_5_code 102 = .ok (.return_, 1)) := by
  have h : List.drop 76 prog_8_method_5_code.data.toList = 0x84 :: _ := rfl
  refine ⟨zq_k_iinc 8 1 h rfl (zq_o_132 _) (by decide +kernel) (by decide +kernel), ?_⟩
  replace h := zq_nx3 (q := 79) h rfl
  refine ⟨zq_k_s2 167 (fun z => .goto z) (-37) h rfl (zq_o_167 _) (by decide +kernel), ?_⟩
  replace h := zq_nx3 (q := 82) h rfl
  refine ⟨zq_k_n 42 h rfl (zq_o_42 _), ?_⟩
  replace h := zq_nx1 (q := 83) h rfl
  refine ⟨zq_k_u2 180 (fun z => .getfield z) 27 h rfl (zq_o_180 _) (by decide +kernel), ?_⟩
  replace h := zq_nx3 (q := 86) h rfl
  refine ⟨zq_k_n 27 h rfl (zq_o_27 _), ?_⟩
  replace h := zq_nx1 (q := 87) h rfl
  refine ⟨zq_k_s1 16 (fun z => .bipush z) 6 h rfl (zq_o_16 _) (by decide +kernel), ?_⟩
  replace h := zq_nx2 (q := 89) h rfl
  refine ⟨zq_k_n 104 h rfl (zq_o_104 _), ?_⟩
  replace h := zq_nx1 (q := 90) h rfl
  refine ⟨zq_k_u1 21 (fun z => .iload z) 5 h rfl (zq_o_21 _) (by decide +kernel), ?_⟩
  replace h := zq_nx2 (q := 92) h rfl
  refine ⟨zq_k_n 96 h rfl (zq_o_96 _), ?_⟩
  replace h := zq_nx1 (q := 93) h rfl
  refine ⟨zq_k_u1 22 (fun z => .lload z) 6 h rfl (zq_o_22 _) (by decide +kernel), ?_⟩
  replace h := zq_nx2 (q := 95) h rfl
  refine ⟨zq_k_n 80 h rfl (zq_o_80 _), ?_⟩
  replace h := zq_nx1 (q := 96) h rfl
  refine ⟨zq_k_iinc 5 (-1) h rfl (zq_o_132 _) (by decide +kernel) (by decide +kernel), ?_⟩
  replace h := zq_nx3 (q := 99) h rfl
  refine ⟨zq_k_s2 167 (fun z => .goto z) (-68) h rfl (zq_o_167 _) (by decide +kernel), ?_⟩
  replace h := zq_nx3 (q := 102) h rfl
  exact zq_k_n 177 h rfl (zq_o_177 _)
theorem d_Tables_spendAlone_76 : decode prog_8_method_5_code 76 = .ok (.iinc 8 1, 3) := dd_Tables_spendAlone_76.1
theorem d_Tables_spendAlone_79 : decode prog_8_method_5_code 79 = .ok (.goto (-37), 3) := dd_Tables_spendAlone_76.2.1
theorem d_Tables_spendAlone_82 : decode prog_8_method_5_code 82 = .ok (.aload_n 0, 1) := dd_Tables_spendAlone_76.2.2.1
theorem d_Tables_spendAlone_83 : decode prog_8_method_5_code 83 = .ok (.getfield 27, 3) := dd_Tables_spendAlone_76.2.2.2.1
theorem d_Tables_spendAlone_86 : decode prog_8_method_5_code 86 = .ok (.iload_n 1, 1) := dd_Tables_spendAlone_76.2.2.2.2.1
theorem d_Tables_spendAlone_87 : decode prog_8_method_5_code 87 = .ok (.bipush 6, 2) := dd_Tables_spendAlone_76.2.2.2.2.2.1
theorem d_Tables_spendAlone_89 : decode prog_8_method_5_code 89 = .ok (.imul, 1) := dd_Tables_spendAlone_76.2.2.2.2.2.2.1
theorem d_Tables_spendAlone_90 : decode prog_8_method_5_code 90 = .ok (.iload 5, 2) := dd_Tables_spendAlone_76.2.2.2.2.2.2.2.1
theorem d_Tables_spendAlone_92 : decode prog_8_method_5_code 92 = .ok (.iadd, 1) := dd_Tables_spendAlone_76.2.2.2.2.2.2.2.2.1
theorem d_Tables_spendAlone_93 : decode prog_8_method_5_code 93 = .ok (.lload 6, 2) := dd_Tables_spendAlone_76.2.2.2.2.2.2.2.2.2.1
theorem d_Tables_spendAlone_95 : decode prog_8_method_5_code 95 = .ok (.lastore, 1) := dd_Tables_spendAlone_76.2.2.2.2.2.2.2.2.2.2.1
theorem d_Tables_spendAlone_96 : decode prog_8_method_5_code 96 = .ok (.iinc 5 (-1), 3) := dd_Tables_spendAlone_76.2.2.2.2.2.2.2.2.2.2.2.1
theorem d_Tables_spendAlone_99 : decode prog_8_method_5_code 99 = .ok (.goto (-68), 3) := dd_Tables_spendAlone_76.2.2.2.2.2.2.2.2.2.2.2.2.1
theorem d_Tables_spendAlone_102 : decode prog_8_method_5_code 102 = .ok (.return_, 1) := dd_Tables_spendAlone_76.2.2.2.2.2.2.2.2.2.2.2.2.2
def f_Tables_spendAlone_82 (rec31 : Nat → Int32 → Int32 → Int32 → Int32 → mH → Option mH) (b0 : Nat) (b1 : Int32) (b3 : Int32) (b4 : Int32) (b5 : Int32) (b6 : Int64) (h : mH) : Option mH :=
  bd1 (gR h b0 7 6) fun x20 =>
  bd1 (sL h x20 ((b1 * (6 : Int32)) + b5) b6) fun h22 =>
  rec31 b0 b1 b3 b4 (b5 + ((-1) : Int32)) h22
set_option maxRecDepth 20000 in
theorem t_Tables_spendAlone_82 {sc : Nat × (Nat → Int32)} (rec31 : Nat → Int32 → Int32 → Int32 → Int32 → mH → Option mH) (hrec31 : ∀ (b0 : Nat) (b1 : Int32) (b3 : Int32) (b4 : Int32) (b5 : Int32) (h : mH) (h' : mH), rec31 b0 b1 b3 b4 b5 h = some h' → G sc y_Tables_spendAlone prog_8_method_5_code 9 none 0 0 31 [(0, .ref b0), (1, .int b1), (3, .int b3), (4, .int b4), (5, .int b5)] [] h none h') (b0 : Nat) (b1 : Int32) (b3 : Int32) (b4 : Int32) (b5 : Int32) (b6 : Int64) (h : mH) (h' : mH) (hf : f_Tables_spendAlone_82 rec31 b0 b1 b3 b4 b5 b6 h = some h') : G sc y_Tables_spendAlone prog_8_method_5_code 9 none 0 0 82 [(0, .ref b0), (1, .int b1), (3, .int b3), (4, .int b4), (5, .int b5), (6, .long b6)] [] h none h' := by
  unfold f_Tables_spendAlone_82 at hf
  refine g_aload_n (pc := 82) 0 d_Tables_spendAlone_82 rfl rfl ?_
  obtain ⟨x20, e21, hf⟩ := bd1_e hf
  refine g_get (pc := 83) (ci := 7) (kk := 6) d_Tables_spendAlone_83 rfl in_Tables (by decide) wd_242 (gR_spec e21) ?_
  refine g_iload_n (pc := 86) 1 d_Tables_spendAlone_86 rfl rfl ?_
  refine g_bipush (pc := 87) (6 : Int32) d_Tables_spendAlone_87 (by decide) ?_
  refine g_imul (pc := 89) d_Tables_spendAlone_89 ?_
  refine g_iload (pc := 90) 4 d_Tables_spendAlone_90 rfl ?_
  refine g_iadd (pc := 92) d_Tables_spendAlone_92 ?_
  refine g_lload (pc := 93) 5 d_Tables_spendAlone_93 rfl ?_
  obtain ⟨h22, e23, hf⟩ := bd1_e hf
  refine g_last (pc := 95) d_Tables_spendAlone_95 e23 ?_
  refine g_iinc (pc := 96) 4 (b5 + ((-1) : Int32)) [(5, .int (b5 + ((-1) : Int32))), (0, .ref b0), (1, .int b1), (3, .int b3), (4, .int b4), (6, .long b6)] d_Tables_spendAlone_96 rfl rfl (Nat.le_of_ble_eq_true rfl) rfl ?_
  refine g_goto (pc := 99) 31 d_Tables_spendAlone_99 (by decide) ?_
  refine g_lv [1, 2, 3, 4, 0] rfl ?_
  exact hrec31 _ _ _ _ _ _ _  hf
def f_Tables_spendAlone_42b (rec31 : Nat → Int32 → Int32 → Int32 → Int32 → mH → Option mH) (rec42 : Nat → Int32 → Int32 → Int32 → Int32 → Int64 → Int32 → mH → Option mH) (b0 : Nat) (b1 : Int32) (b3 : Int32) (b4 : Int32) (b5 : Int32) (b6 : Int64) (b8 : Int32) (h : mH) : Option mH :=
  if b4 < b8 then
    f_Tables_spendAlone_82 rec31 b0 b1 b3 b4 b5 b6 h
  else
    if b5 < b8 then
      f_Tables_spendAlone_82 rec31 b0 b1 b3 b4 b5 b6 h
    else
      bd1 (gR h b0 7 6) fun x14 =>
      bd1 (aL h x14 (((b1 * (6 : Int32)) + b5) - b8)) fun x16 =>
      rec42 b0 b1 b3 b4 b5 (b6 + x16) (b8 + (1 : Int32)) h
set_option maxRecDepth 20000 in
theorem t_Tables_spendAlone_42b {sc : Nat × (Nat → Int32)} (rec31 : Nat → Int32 → Int32 → Int32 → Int32 → mH → Option mH) (hrec31 : ∀ (b0 : Nat) (b1 : Int32) (b3 : Int32) (b4 : Int32) (b5 : Int32) (h : mH) (h' : mH), rec31 b0 b1 b3 b4 b5 h = some h' → G sc y_Tables_spendAlone prog_8_method_5_code 9 none 0 0 31 [(0, .ref b0), (1, .int b1), (3, .int b3), (4, .int b4), (5, .int b5)] [] h none h') (rec42 : Nat → Int32 → Int32 → Int32 → Int32 → Int64 → Int32 → mH → Option mH) (hrec42 : ∀ (b0 : Nat) (b1 : Int32) (b3 : Int32) (b4 : Int32) (b5 : Int32) (b6 : Int64) (b8 : Int32) (h : mH) (h' : mH), rec42 b0 b1 b3 b4 b5 b6 b8 h = some h' → G sc y_Tables_spendAlone prog_8_method_5_code 9 none 0 0 42 [(0, .ref b0), (1, .int b1), (3, .int b3), (4, .int b4), (5, .int b5), (6, .long b6), (8, .int b8)] [] h none h') (b0 : Nat) (b1 : Int32) (b3 : Int32) (b4 : Int32) (b5 : Int32) (b6 : Int64) (b8 : Int32) (h : mH) (h' : mH) (hf : f_Tables_spendAlone_42b rec31 rec42 b0 b1 b3 b4 b5 b6 b8 h = some h') : G sc y_Tables_spendAlone prog_8_method_5_code 9 none 0 0 42 [(0, .ref b0), (1, .int b1), (3, .int b3), (4, .int b4), (5, .int b5), (6, .long b6), (8, .int b8)] [] h none h' := by
  unfold f_Tables_spendAlone_42b at hf
  refine g_iload (pc := 42) 6 d_Tables_spendAlone_42 rfl ?_
  refine g_iload (pc := 44) 3 d_Tables_spendAlone_44 rfl ?_
  refine g_icmpgt (pc := 46) 82 d_Tables_spendAlone_46 (by decide) (fun c19 => ?_) (fun c19 => ?_)
  · replace hf := (if_pos c19).symm.trans hf
    refine g_lv [0, 1, 2, 3, 4, 5] rfl ?_
    exact t_Tables_spendAlone_82 rec31 hrec31 _ _ _ _ _ _ _ _  hf
  · replace hf := (if_neg c19).symm.trans hf
    refine g_iload (pc := 49) 6 d_Tables_spendAlone_49 rfl ?_
    refine g_iload (pc := 51) 4 d_Tables_spendAlone_51 rfl ?_
    refine g_icmpgt (pc := 53) 82 d_Tables_spendAlone_53 (by decide) (fun c18 => ?_) (fun c18 => ?_)
    · replace hf := (if_pos c18).symm.trans hf
      refine g_lv [0, 1, 2, 3, 4, 5] rfl ?_
      exact t_Tables_spendAlone_82 rec31 hrec31 _ _ _ _ _ _ _ _  hf
    · replace hf := (if_neg c18).symm.trans hf
      refine g_lload (pc := 56) 5 d_Tables_spendAlone_56 rfl ?_
      refine g_aload_n (pc := 58) 0 d_Tables_spendAlone_58 rfl rfl ?_
      obtain ⟨x14, e15, hf⟩ := bd1_e hf
      refine g_get (pc := 59) (ci := 7) (kk := 6) d_Tables_spendAlone_59 rfl in_Tables (by decide) wd_242 (gR_spec e15) ?_
      refine g_iload_n (pc := 62) 1 d_Tables_spendAlone_62 rfl rfl ?_
      refine g_bipush (pc := 63) (6 : Int32) d_Tables_spendAlone_63 (by decide) ?_
      refine g_imul (pc := 65) d_Tables_spendAlone_65 ?_
      refine g_iload (pc := 66) 4 d_Tables_spendAlone_66 rfl ?_
      refine g_iadd (pc := 68) d_Tables_spendAlone_68 ?_
      refine g_iload (pc := 69) 6 d_Tables_spendAlone_69 rfl ?_
      refine g_isub (pc := 71) d_Tables_spendAlone_71 ?_
      obtain ⟨x16, e17, hf⟩ := bd1_e hf
      refine g_lald (pc := 72) d_Tables_spendAlone_72 e17 ?_
      refine g_ladd (pc := 73) d_Tables_spendAlone_73 ?_
      refine g_lstore (pc := 74) [(6, .long (b6 + x16)), (0, .ref b0), (1, .int b1), (3, .int b3), (4, .int b4), (5, .int b5), (8, .int b8)] d_Tables_spendAlone_74 (Nat.le_of_ble_eq_true rfl) rfl ?_
      refine g_iinc (pc := 76) 6 (b8 + (1 : Int32)) [(8, .int (b8 + (1 : Int32))), (6, .long (b6 + x16)), (0, .ref b0), (1, .int b1), (3, .int b3), (4, .int b4), (5, .int b5)] d_Tables_spendAlone_76 rfl rfl (Nat.le_of_ble_eq_true rfl) rfl ?_
      refine g_goto (pc := 79) 42 d_Tables_spendAlone_79 (by decide) ?_
      refine g_lv [2, 3, 4, 5, 6, 1, 0] rfl ?_
      exact hrec42 _ _ _ _ _ _ _ _ _  hf
def f_Tables_spendAlone_42 (rec31 : Nat → Int32 → Int32 → Int32 → Int32 → mH → Option mH) : Nat → Nat → Int32 → Int32 → Int32 → Int32 → Int64 → Int32 → mH → Option mH
  | 0 => fun _ _ _ _ _ _ _ _ => none
  | n + 1 => f_Tables_spendAlone_42b rec31 (f_Tables_spendAlone_42 rec31 n)
theorem t_Tables_spendAlone_42 {sc : Nat × (Nat → Int32)} (rec31 : Nat → Int32 → Int32 → Int32 → Int32 → mH → Option mH) (hrec31 : ∀ (b0 : Nat) (b1 : Int32) (b3 : Int32) (b4 : Int32) (b5 : Int32) (h : mH) (h' : mH), rec31 b0 b1 b3 b4 b5 h = some h' → G sc y_Tables_spendAlone prog_8_method_5_code 9 none 0 0 31 [(0, .ref b0), (1, .int b1), (3, .int b3), (4, .int b4), (5, .int b5)] [] h none h') : ∀ (n : Nat) (b0 : Nat) (b1 : Int32) (b3 : Int32) (b4 : Int32) (b5 : Int32) (b6 : Int64) (b8 : Int32) (h : mH) (h' : mH) (hf : f_Tables_spendAlone_42 rec31 n b0 b1 b3 b4 b5 b6 b8 h = some h'), G sc y_Tables_spendAlone prog_8_method_5_code 9 none 0 0 42 [(0, .ref b0), (1, .int b1), (3, .int b3), (4, .int b4), (5, .int b5), (6, .long b6), (8, .int b8)] [] h none h'
  | 0, _, _, _, _, _, _, _, _, _, hf => by cases hf
  | n + 1, _, _, _, _, _, _, _, _, _, hf => t_Tables_spendAlone_42b rec31 hrec31 (f_Tables_spendAlone_42 rec31 n) (t_Tables_spendAlone_42 rec31 hrec31 n) _ _ _ _ _ _ _ _ _ hf
def f_Tables_spendAlone_31b (rec31 : Nat → Int32 → Int32 → Int32 → Int32 → mH → Option mH) (b0 : Nat) (b1 : Int32) (b3 : Int32) (b4 : Int32) (b5 : Int32) (h : mH) : Option mH :=
  if b5 < 0 then
    some h
  else
    f_Tables_spendAlone_42 rec31 FU b0 b1 b3 b4 b5 (0 : Int64) b3 h
set_option maxRecDepth 20000 in
theorem t_Tables_spendAlone_31b {sc : Nat × (Nat → Int32)} (rec31 : Nat → Int32 → Int32 → Int32 → Int32 → mH → Option mH) (hrec31 : ∀ (b0 : Nat) (b1 : Int32) (b3 : Int32) (b4 : Int32) (b5 : Int32) (h : mH) (h' : mH), rec31 b0 b1 b3 b4 b5 h = some h' → G sc y_Tables_spendAlone prog_8_method_5_code 9 none 0 0 31 [(0, .ref b0), (1, .int b1), (3, .int b3), (4, .int b4), (5, .int b5)] [] h none h') (b0 : Nat) (b1 : Int32) (b3 : Int32) (b4 : Int32) (b5 : Int32) (h : mH) (h' : mH) (hf : f_Tables_spendAlone_31b rec31 b0 b1 b3 b4 b5 h = some h') : G sc y_Tables_spendAlone prog_8_method_5_code 9 none 0 0 31 [(0, .ref b0), (1, .int b1), (3, .int b3), (4, .int b4), (5, .int b5)] [] h none h' := by
  unfold f_Tables_spendAlone_31b at hf
  refine g_iload (pc := 31) 4 d_Tables_spendAlone_31 rfl ?_
  refine g_iflt (pc := 33) 102 d_Tables_spendAlone_33 (by decide) (fun c13 => ?_) (fun c13 => ?_)
  · replace hf := (if_pos c13).symm.trans hf
    obtain rfl := ret1 hf
    exact g_vret (pc := 102) rfl d_Tables_spendAlone_102
  · replace hf := (if_neg c13).symm.trans hf
    refine g_lconst (pc := 36) (0 : Int64) d_Tables_spendAlone_36 (by decide) ?_
    refine g_lstore (pc := 37) [(6, .long (0 : Int64)), (0, .ref b0), (1, .int b1), (3, .int b3), (4, .int b4), (5, .int b5)] d_Tables_spendAlone_37 (Nat.le_of_ble_eq_true rfl) rfl ?_
    refine g_iload_n (pc := 39) 3 d_Tables_spendAlone_39 rfl rfl ?_
    refine g_istore (pc := 40) [(8, .int b3), (6, .long (0 : Int64)), (0, .ref b0), (1, .int b1), (3, .int b3), (4, .int b4), (5, .int b5)] d_Tables_spendAlone_40 (Nat.le_of_ble_eq_true rfl) rfl ?_
    refine g_lv [2, 3, 4, 5, 6, 1, 0] rfl ?_
    exact t_Tables_spendAlone_42 rec31 hrec31 FU _ _ _ _ _ _ _ _ _  hf
def f_Tables_spendAlone_31  : Nat → Nat → Int32 → Int32 → Int32 → Int32 → mH → Option mH
  | 0 => fun _ _ _ _ _ _ => none
  | n + 1 => f_Tables_spendAlone_31b  (f_Tables_spendAlone_31  n)
theorem t_Tables_spendAlone_31 {sc : Nat × (Nat → Int32)}  : ∀ (n : Nat) (b0 : Nat) (b1 : Int32) (b3 : Int32) (b4 : Int32) (b5 : Int32) (h : mH) (h' : mH) (hf : f_Tables_spendAlone_31  n b0 b1 b3 b4 b5 h = some h'), G sc y_Tables_spendAlone prog_8_method_5_code 9 none 0 0 31 [(0, .ref b0), (1, .int b1), (3, .int b3), (4, .int b4), (5, .int b5)] [] h none h'
  | 0, _, _, _, _, _, _, _, hf => by cases hf
  | n + 1, _, _, _, _, _, _, _, hf => t_Tables_spendAlone_31b  (f_Tables_spendAlone_31  n) (t_Tables_spendAlone_31  n) _ _ _ _ _ _ _ hf
def f_Tables_spendAlone_0  (a0 : Nat) (a1 : Int32) (a2 : Int32) (h : mH) : Option mH :=
  bd1 (gR h a0 7 1) fun x1 =>
  bd1 (aI h 0 x1 ((a1 * (5 : Int32)) + a2)) fun x3 =>
  bd1 (gR h a0 7 2) fun x5 =>
  bd1 (aI h 0 x5 ((a1 * (5 : Int32)) + a2)) fun x7 =>
  bd1 (gR h a0 7 5) fun x9 =>
  bd1 (aI h 0 x9 a1) fun x11 =>
  f_Tables_spendAlone_31  FU a0 a1 x3 x7 x11 h
set_option maxRecDepth 20000 in
theorem t_Tables_spendAlone_0 {sc : Nat × (Nat → Int32)}  (a0 : Nat) (a1 : Int32) (a2 : Int32) (h : mH) (h' : mH) (hf : f_Tables_spendAlone_0  a0 a1 a2 h = some h') : G sc y_Tables_spendAlone prog_8_method_5_code 9 none 0 0 0 [(0, .ref a0), (1, .int a1), (2, .int a2)] [] h none h' := by
  unfold f_Tables_spendAlone_0 at hf
  refine g_aload_n (pc := 0) 0 d_Tables_spendAlone_0 rfl rfl ?_
  obtain ⟨x1, e2, hf⟩ := bd1_e hf
  refine g_get (pc := 1) (ci := 7) (kk := 1) d_Tables_spendAlone_1 rfl in_Tables (by decide) wd_237 (gR_spec e2) ?_
  refine g_iload_n (pc := 4) 1 d_Tables_spendAlone_4 rfl rfl ?_
  refine g_iconst (pc := 5) (5 : Int32) d_Tables_spendAlone_5 (by decide) ?_
  refine g_imul (pc := 6) d_Tables_spendAlone_6 ?_
  refine g_iload_n (pc := 7) 2 d_Tables_spendAlone_7 rfl rfl ?_
  refine g_iadd (pc := 8) d_Tables_spendAlone_8 ?_
  obtain ⟨x3, e4, hf⟩ := bd1_e hf
  refine g_iald (pc := 9) d_Tables_spendAlone_9 e4 ?_
  refine g_istore_n (pc := 10) [(3, .int x3), (0, .ref a0), (1, .int a1), (2, .int a2)] d_Tables_spendAlone_10 rfl (Nat.le_of_ble_eq_true rfl) rfl ?_
  refine g_aload_n (pc := 11) 1 d_Tables_spendAlone_11 rfl rfl ?_
  obtain ⟨x5, e6, hf⟩ := bd1_e hf
  refine g_get (pc := 12) (ci := 7) (kk := 2) d_Tables_spendAlone_12 rfl in_Tables (by decide) wd_238 (gR_spec e6) ?_
  refine g_iload_n (pc := 15) 2 d_Tables_spendAlone_15 rfl rfl ?_
  refine g_iconst (pc := 16) (5 : Int32) d_Tables_spendAlone_16 (by decide) ?_
  refine g_imul (pc := 17) d_Tables_spendAlone_17 ?_
  refine g_iload_n (pc := 18) 3 d_Tables_spendAlone_18 rfl rfl ?_
  refine g_iadd (pc := 19) d_Tables_spendAlone_19 ?_
  obtain ⟨x7, e8, hf⟩ := bd1_e hf
  refine g_iald (pc := 20) d_Tables_spendAlone_20 e8 ?_
  refine g_istore (pc := 21) [(4, .int x7), (3, .int x3), (0, .ref a0), (1, .int a1), (2, .int a2)] d_Tables_spendAlone_21 (Nat.le_of_ble_eq_true rfl) rfl ?_
  refine g_aload_n (pc := 23) 2 d_Tables_spendAlone_23 rfl rfl ?_
  obtain ⟨x9, e10, hf⟩ := bd1_e hf
  refine g_get (pc := 24) (ci := 7) (kk := 5) d_Tables_spendAlone_24 rfl in_Tables (by decide) wd_241 (gR_spec e10) ?_
  refine g_iload_n (pc := 27) 3 d_Tables_spendAlone_27 rfl rfl ?_
  obtain ⟨x11, e12, hf⟩ := bd1_e hf
  refine g_iald (pc := 28) d_Tables_spendAlone_28 e12 ?_
  refine g_istore (pc := 29) [(5, .int x11), (4, .int x7), (3, .int x3), (0, .ref a0), (1, .int a1), (2, .int a2)] d_Tables_spendAlone_29 (Nat.le_of_ble_eq_true rfl) rfl ?_
  refine g_lv [3, 4, 2, 1, 0] rfl ?_
  exact t_Tables_spendAlone_31  FU _ _ _ _ _ _ _  hf
def f_Tables_spendAlone (a0 : Nat) (a1 : Int32) (a2 : Int32) (h : mH) : Option mH := f_Tables_spendAlone_0 a0 a1 a2 h
theorem c_Tables_spendAlone {sc : Nat × (Nat → Int32)} {a0 : Nat} {a1 : Int32} {a2 : Int32} {h : mH} {h' : mH} (hf : f_Tables_spendAlone a0 a1 a2 h = some h') : MM sc y_Tables_spendAlone prog_8_method_5_code 9 none 0 0 [.ref a0, .int a1, .int a2] h none h' :=
  mm_of_G (by decide) (Nat.le_of_ble_eq_true rfl) (t_Tables_spendAlone_0 _ _ _ _ _ hf)
/-! Tables stateOf (III)I -/
set_option maxRecDepth 100000 in
theorem dd_Tables_stateOf_0 : (decode prog_8_method_11_code 0 = .ok (.iload_n 0, 1)) ∧ (decode prog_8_method_11_code 1 = .ok (.bipush 6, 2)) ∧ (decode prog_8_method_11_code 3 = .ok (.imul, 1)) ∧ (decode prog_8_method_11_code 4 = .ok (.iload_n 1, 1)) ∧ (decode prog_8_method_11_code 5 = .ok (.iadd, 1)) ∧ (decode prog_8_method_11_code 6 = .ok (.bipush 6, 2)) ∧ (decode prog_8_method_11_code 8 = .ok (.imul, 1)) ∧ (decode prog_8_method_11_code 9 = .ok (.iload_n 2, 1)) ∧ (decode prog_8_method_11_code 10 = .ok (.iadd, 1)) ∧ (decode prog_8_method_11_code 11 = .ok (.ireturn, 1)) := by
  have h : List.drop 0 prog_8_method_11_code.data.toList = 0x1a :: _ := rfl
  refine ⟨zq_k_n 26 h rfl (zq_o_26 _), ?_⟩
  replace h := zq_nx1 (q := 1) h rfl
  refine ⟨zq_k_s1 16 (fun z => .bipush z) 6 h rfl (zq_o_16 _) (by decide +kernel), ?_⟩
  replace h := zq_nx2 (q := 3) h rfl
  refine ⟨zq_k_n 104 h rfl (zq_o_104 _), ?_⟩
  replace h := zq_nx1 (q := 4) h rfl
  refine ⟨zq_k_n 27 h rfl (zq_o_27 _), ?_⟩
  replace h := zq_nx1 (q := 5) h rfl
  refine ⟨zq_k_n 96 h rfl (zq_o_96 _), ?_⟩
  replace h := zq_nx1 (q := 6) h rfl
  refine ⟨zq_k_s1 16 (fun z => .bipush z) 6 h rfl (zq_o_16 _) (by decide +kernel), ?_⟩
  replace h := zq_nx2 (q := 8) h rfl
  refine ⟨zq_k_n 104 h rfl (zq_o_104 _), ?_⟩
  replace h := zq_nx1 (q := 9) h rfl
  refine ⟨zq_k_n 28 h rfl (zq_o_28 _), ?_⟩
  replace h := zq_nx1 (q := 10) h rfl
  refine ⟨zq_k_n 96 h rfl (zq_o_96 _), ?_⟩
  replace h := zq_nx1 (q := 11) h rfl
  exact zq_k_n 172 h rfl (zq_o_172 _)
theorem d_Tables_stateOf_0 : decode prog_8_method_11_code 0 = .ok (.iload_n 0, 1) := dd_Tables_stateOf_0.1
theorem d_Tables_stateOf_1 : decode prog_8_method_11_code 1 = .ok (.bipush 6, 2) := dd_Tables_stateOf_0.2.1
theorem d_Tables_stateOf_3 : decode prog_8_method_11_code 3 = .ok (.imul, 1) := dd_Tables_stateOf_0.2.2.1
theorem d_Tables_stateOf_4 : decode prog_8_method_11_code 4 = .ok (.iload_n 1, 1) := dd_Tables_stateOf_0.2.2.2.1
theorem d_Tables_stateOf_5 : decode prog_8_method_11_code 5 = .ok (.iadd, 1) := dd_Tables_stateOf_0.2.2.2.2.1
theorem d_Tables_stateOf_6 : decode prog_8_method_11_code 6 = .ok (.bipush 6, 2) := dd_Tables_stateOf_0.2.2.2.2.2.1
theorem d_Tables_stateOf_8 : decode prog_8_method_11_code 8 = .ok (.imul, 1) := dd_Tables_stateOf_0.2.2.2.2.2.2.1
theorem d_Tables_stateOf_9 : decode prog_8_method_11_code 9 = .ok (.iload_n 2, 1) := dd_Tables_stateOf_0.2.2.2.2.2.2.2.1
theorem d_Tables_stateOf_10 : decode prog_8_method_11_code 10 = .ok (.iadd, 1) := dd_Tables_stateOf_0.2.2.2.2.2.2.2.2.1
theorem d_Tables_stateOf_11 : decode prog_8_method_11_code 11 = .ok (.ireturn, 1) := dd_Tables_stateOf_0.2.2.2.2.2.2.2.2.2
def f_Tables_stateOf_0  (a0 : Int32) (a1 : Int32) (a2 : Int32) (h : mH) : Option (Int32 × mH) :=
  some ((((a0 * (6 : Int32)) + a1) * (6 : Int32)) + a2, h)
set_option maxRecDepth 20000 in
theorem t_Tables_stateOf_0 {sc : Nat × (Nat → Int32)}  (a0 : Int32) (a1 : Int32) (a2 : Int32) (h : mH) (r : Int32) (h' : mH) (hf : f_Tables_stateOf_0  a0 a1 a2 h = some (r, h')) : G sc y_Tables_stateOf prog_8_method_11_code 3 (some .int) 0 0 0 [(0, .int a0), (1, .int a1), (2, .int a2)] [] h (some (.int r)) h' := by
  unfold f_Tables_stateOf_0 at hf
  refine g_iload_n (pc := 0) 0 d_Tables_stateOf_0 rfl rfl ?_
  refine g_bipush (pc := 1) (6 : Int32) d_Tables_stateOf_1 (by decide) ?_
  refine g_imul (pc := 3) d_Tables_stateOf_3 ?_
  refine g_iload_n (pc := 4) 1 d_Tables_stateOf_4 rfl rfl ?_
  refine g_iadd (pc := 5) d_Tables_stateOf_5 ?_
  refine g_bipush (pc := 6) (6 : Int32) d_Tables_stateOf_6 (by decide) ?_
  refine g_imul (pc := 8) d_Tables_stateOf_8 ?_
  refine g_iload_n (pc := 9) 2 d_Tables_stateOf_9 rfl rfl ?_
  refine g_iadd (pc := 10) d_Tables_stateOf_10 ?_
  obtain ⟨rfl, rfl⟩ := ret2 hf
  exact g_iret (pc := 11) rfl d_Tables_stateOf_11
def f_Tables_stateOf (a0 : Int32) (a1 : Int32) (a2 : Int32) (h : mH) : Option (Int32 × mH) := f_Tables_stateOf_0 a0 a1 a2 h
theorem c_Tables_stateOf {sc : Nat × (Nat → Int32)} {a0 : Int32} {a1 : Int32} {a2 : Int32} {h : mH} {r : Int32} {h' : mH} (hf : f_Tables_stateOf a0 a1 a2 h = some (r, h')) : MM sc y_Tables_stateOf prog_8_method_11_code 3 (some .int) 0 0 [.int a0, .int a1, .int a2] h (some (.int r)) h' :=
  mm_of_G (by decide) (Nat.le_of_ble_eq_true rfl) (t_Tables_stateOf_0 _ _ _ _ _ _ hf)
/-! Tables joinAll ()V -/
set_option maxRecDepth 100000 in
theorem dd_Tables_joinAll_0 : (decode prog_8_method_6_code 0 = .ok (.iconst 0, 1)) ∧ (decode prog_8_method_6_code 1 = .ok (.istore_n 1, 1)) ∧ (decode prog_8_method_6_code 2 = .ok (.iload_n 1, 1)) ∧ (decode prog_8_method_6_code 3 = .ok (.aload_n 0, 1)) ∧ (decode prog_8_method_6_code 4 = .ok (.getfield 24, 3)) ∧ (decode prog_8_method_6_code 7 = .ok (.iconst 0, 1)) ∧ (decode prog_8_method_6_code 8 = .ok (.iaload, 1)) ∧ (decode prog_8_method_6_code 9 = .ok (.if_icmp .gt 82, 3)) ∧ (decode prog_8_method_6_code 12 = .ok (.iconst 0, 1)) ∧ (decode prog_8_method_6_code 13 = .ok (.istore_n 2, 1)) ∧ (decode prog_8_method_6_code 14 = .ok (.iload_n 2, 1)) ∧ (decode prog_8_method_6_code 15 = .ok (.aload_n 0, 1)) ∧ (decode prog_8_method_6_code 16 = .ok (.getfield 24, 3)) ∧ (decode prog_8_method_6_code 19 = .ok (.iconst 1, 1)) ∧ (decode prog_8_method_6_code 20 = .ok (.iaload, 1)) ∧ (decode prog_8_method_6_code 21 = .ok (.if_icmp .gt 64, 3)) ∧ (decode prog_8_method_6_code 24 = .ok (.iconst 0, 1)) ∧ (decode prog_8_method_6_code 25 = .ok (.istore_n 3, 1)) ∧ (decode prog_8_method_6_code 26 = .ok (.iload_n 3, 1)) ∧ (decode prog_8_method_6_code 27 = .ok (.aload_n 0, 1)) ∧ (decode prog_8_method_6_code 28 = .ok (.getfield 24, 3)) ∧ (decode prog_8_method_6_code 31 = .ok (.iconst 2, 1)) ∧ (decode prog_8_method_6_code 32 = .ok (.iaload, 1)) ∧ (decode prog_8_method_6_code 33 = .ok (.if_icmp .gt 46, 3)) := by
  have h : List.drop 0 prog_8_method_6_code.data.toList = 0x03 :: _ := rfl
  refine ⟨zq_k_n 3 h rfl (zq_o_3 _), ?_⟩
  replace h := zq_nx1 (q := 1) h rfl
  refine ⟨zq_k_n 60 h rfl (zq_o_60 _), ?_⟩
  replace h := zq_nx1 (q := 2) h rfl
  refine ⟨zq_k_n 27 h rfl (zq_o_27 _), ?_⟩
  replace h := zq_nx1 (q := 3) h rfl
  refine ⟨zq_k_n 42 h rfl (zq_o_42 _), ?_⟩
  replace h := zq_nx1 (q := 4) h rfl
  refine ⟨zq_k_u2 180 (fun z => .getfield z) 24 h rfl (zq_o_180 _) (by decide +kernel), ?_⟩
  replace h := zq_nx3 (q := 7) h rfl
  refine ⟨zq_k_n 3 h rfl (zq_o_3 _), ?_⟩
  replace h := zq_nx1 (q := 8) h rfl
  refine ⟨zq_k_n 46 h rfl (zq_o_46 _), ?_⟩
  replace h := zq_nx1 (q := 9) h rfl
  refine ⟨zq_k_s2 163 (fun z => .if_icmp .gt z) 82 h rfl (zq_o_163 _) (by decide +kernel), ?_⟩
  replace h := zq_nx3 (q := 12) h rfl
  refine ⟨zq_k_n 3 h rfl (zq_o_3 _), ?_⟩
  replace h := zq_nx1 (q := 13) h rfl
  refine ⟨zq_k_n 61 h rfl (zq_o_61 _), ?_⟩
  replace h := zq_nx1 (q := 14) h rfl
  refine ⟨zq_k_n 28 h rfl (zq_o_28 _), ?_⟩
  replace h := zq_nx1 (q := 15) h rfl
  refine ⟨zq_k_n 42 h rfl (zq_o_42 _), ?_⟩
  replace h := zq_nx1 (q := 16) h rfl
  refine ⟨zq_k_u2 180 (fun z => .getfield z) 24 h rfl (zq_o_180 _) (by decide +kernel), ?_⟩
  replace h := zq_nx3 (q := 19) h rfl
  refine ⟨zq_k_n 4 h rfl (zq_o_4 _), ?_⟩
  replace h := zq_nx1 (q := 20) h rfl
  refine ⟨zq_k_n 46 h rfl (zq_o_46 _), ?_⟩
  replace h := zq_nx1 (q := 21) h rfl
  refine ⟨zq_k_s2 163 (fun z => .if_icmp .gt z) 64 h rfl (zq_o_163 _) (by decide +kernel), ?_⟩
  replace h := zq_nx3 (q := 24) h rfl
  refine ⟨zq_k_n 3 h rfl (zq_o_3 _), ?_⟩
  replace h := zq_nx1 (q := 25) h rfl
  refine ⟨zq_k_n 62 h rfl (zq_o_62 _), ?_⟩
  replace h := zq_nx1 (q := 26) h rfl
  refine ⟨zq_k_n 29 h rfl (zq_o_29 _), ?_⟩
  replace h := zq_nx1 (q := 27) h rfl
  refine ⟨zq_k_n 42 h rfl (zq_o_42 _), ?_⟩
  replace h := zq_nx1 (q := 28) h rfl
  refine ⟨zq_k_u2 180 (fun z => .getfield z) 24 h rfl (zq_o_180 _) (by decide +kernel), ?_⟩
  replace h := zq_nx3 (q := 31) h rfl
  refine ⟨zq_k_n 5 h rfl (zq_o_5 _), ?_⟩
  replace h := zq_nx1 (q := 32) h rfl
  refine ⟨zq_k_n 46 h rfl (zq_o_46 _), ?_⟩
  replace h := zq_nx1 (q := 33) h rfl
  exact zq_k_s2 163 (fun z => .if_icmp .gt z) 46 h rfl (zq_o_163 _) (by decide +kernel)
theorem d_Tables_joinAll_0 : decode prog_8_method_6_code 0 = .ok (.iconst 0, 1) := dd_Tables_joinAll_0.1
theorem d_Tables_joinAll_1 : decode prog_8_method_6_code 1 = .ok (.istore_n 1, 1) := dd_Tables_joinAll_0.2.1
theorem d_Tables_joinAll_2 : decode prog_8_method_6_code 2 = .ok (.iload_n 1, 1) := dd_Tables_joinAll_0.2.2.1
theorem d_Tables_joinAll_3 : decode prog_8_method_6_code 3 = .ok (.aload_n 0, 1) := dd_Tables_joinAll_0.2.2.2.1
theorem d_Tables_joinAll_4 : decode prog_8_method_6_code 4 = .ok (.getfield 24, 3) := dd_Tables_joinAll_0.2.2.2.2.1
theorem d_Tables_joinAll_7 : decode prog_8_method_6_code 7 = .ok (.iconst 0, 1) := dd_Tables_joinAll_0.2.2.2.2.2.1
theorem d_Tables_joinAll_8 : decode prog_8_method_6_code 8 = .ok (.iaload, 1) := dd_Tables_joinAll_0.2.2.2.2.2.2.1
theorem d_Tables_joinAll_9 : decode prog_8_method_6_code 9 = .ok (.if_icmp .gt 82, 3) := dd_Tables_joinAll_0.2.2.2.2.2.2.2.1
theorem d_Tables_joinAll_12 : decode prog_8_method_6_code 12 = .ok (.iconst 0, 1) := dd_Tables_joinAll_0.2.2.2.2.2.2.2.2.1
theorem d_Tables_joinAll_13 : decode prog_8_method_6_code 13 = .ok (.istore_n 2, 1) := dd_Tables_joinAll_0.2.2.2.2.2.2.2.2.2.1
theorem d_Tables_joinAll_14 : decode prog_8_method_6_code 14 = .ok (.iload_n 2, 1) := dd_Tables_joinAll_0.2.2.2.2.2.2.2.2.2.2.1
theorem d_Tables_joinAll_15 : decode prog_8_method_6_code 15 = .ok (.aload_n 0, 1) := dd_Tables_joinAll_0.2.2.2.2.2.2.2.2.2.2.2.1
theorem d_Tables_joinAll_16 : decode prog_8_method_6_code 16 = .ok (.getfield 24, 3) := dd_Tables_joinAll_0.2.2.2.2.2.2.2.2.2.2.2.2.1
theorem d_Tables_joinAll_19 : decode prog_8_method_6_code 19 = .ok (.iconst 1, 1) := dd_Tables_joinAll_0.2.2.2.2.2.2.2.2.2.2.2.2.2.1
theorem d_Tables_joinAll_20 : decode prog_8_method_6_code 20 = .ok (.iaload, 1) := dd_Tables_joinAll_0.2.2.2.2.2.2.2.2.2.2.2.2.2.2.1
theorem d_Tables_joinAll_21 : decode prog_8_method_6_code 21 = .ok (.if_icmp .gt 64, 3) := dd_Tables_joinAll_0.2.2.2.2.2.2.2.2.2.2.2.2.2.2.2.1
theorem d_Tables_joinAll_24 : decode prog_8_method_6_code 24 = .ok (.iconst 0, 1) := dd_Tables_joinAll_0.2.2.2.2.2.2.2.2.2.2.2.2.2.2.2.2.1
theorem d_Tables_joinAll_25 : decode prog_8_method_6_code 25 = .ok (.istore_n 3, 1) := dd_Tables_joinAll_0.2.2.2.2.2.2.2.2.2.2.2.2.2.2.2.2.2.1
theorem d_Tables_joinAll_26 : decode prog_8_method_6_code 26 = .ok (.iload_n 3, 1) := dd_Tables_joinAll_0.2.2.2.2.2.2.2.2.2.2.2.2.2.2.2.2.2.2.1
theorem d_Tables_joinAll_27 : decode prog_8_method_6_code 27 = .ok (.aload_n 0, 1) := dd_Tables_joinAll_0.2.2.2.2.2.2.2.2.2.2.2.2.2.2.2.2.2.2.2.1
theorem d_Tables_joinAll_28 : decode prog_8_method_6_code 28 = .ok (.getfield 24, 3) := dd_Tables_joinAll_0.2.2.2.2.2.2.2.2.2.2.2.2.2.2.2.2.2.2.2.2.1
theorem d_Tables_joinAll_31 : decode prog_8_method_6_code 31 = .ok (.iconst 2, 1) := dd_Tables_joinAll_0.2.2.2.2.2.2.2.2.2.2.2.2.2.2.2.2.2.2.2.2.2.1
theorem d_Tables_joinAll_32 : decode prog_8_method_6_code 32 = .ok (.iaload, 1) := dd_Tables_joinAll_0.2.2.2.2.2.2.2.2.2.2.2.2.2.2.2.2.2.2.2.2.2.2.1
theorem d_Tables_joinAll_33 : decode prog_8_method_6_code 33 = .ok (.if_icmp .gt 46, 3) := dd_Tables_joinAll_0.2.2.2.2.2.2.2.2.2.2.2.2.2.2.2.2.2.2.2.2.2.2.2
set_option maxRecDepth 100000 in
theorem dd_Tables_joinAll_36 : (decode prog_8_method_6_code 36 = .ok (.aload_n 0, 1)) ∧ (decode prog_8_method_6_code 37 = .ok (.getfield 31, 3)) ∧ (decode prog_8_method_6_code 40 = .ok (.iload_n 1, 1)) ∧ (decode prog_8_method_6_code 41 = .ok (.iload_n 2, 1)) ∧ (decode prog_8_method_6_code 42 = .ok (.iload_n 3, 1)) ∧ (decode prog_8_method_6_code 43 = .ok (.invokestatic 93, 3)) ∧ (decode prog_8_method_6_code 46 = .ok (.aload_n 0, 1)) ∧ (decode prog_8_method_6_code 47 = .ok (.getfield 27, 3)) ∧ (decode prog_8_method_6_code 50 = .ok (.iload_n 1, 1)) ∧ (decode prog_8_method_6_code 51 = .ok (.laload, 1)) ∧ (decode prog_8_method_6_code 52 = .ok (.aload_n 0, 1)) ∧ (decode prog_8_method_6_code 53 = .ok (.getfield 27, 3)) ∧ (decode prog_8_method_6_code 56 = .ok (.bipush 6, 2)) ∧ (decode prog_8_method_6_code 58 = .ok (.iload_n 2, 1)) ∧ (decode prog_8_method_6_code 59 = .ok (.iadd, 1)) ∧ (decode prog_8_method_6_code 60 = .ok (.laload, 1)) ∧ (decode prog_8_method_6_code 61 = .ok (.lmul, 1)) ∧ (decode prog_8_method_6_code 62 = .ok (.aload_n 0, 1)) ∧ (decode prog_8_method_6_code 63 = .ok (.getfield 27, 3)) ∧ (decode prog_8_method_6_code 66 = .ok (.bipush 12, 2)) ∧ (decode prog_8_method_6_code 68 = .ok (.iload_n 3, 1)) ∧ (decode prog_8_method_6_code 69 = .ok (.iadd, 1)) ∧ (decode prog_8_method_6_code 70 = .ok (.laload, 1)) ∧ (decode prog_8_method_6_code 71 = .ok (.lmul, 1)) := by
  have h : List.drop 36 prog_8_method_6_code.data.toList = 0x2a :: _ := rfl
  refine ⟨zq_k_n 42 h rfl (zq_o_42 _), ?_⟩
  replace h := zq_nx1 (q := 37) h rfl
  refine ⟨zq_k_u2 180 (fun z => .getfield z) 31 h rfl (zq_o_180 _) (by decide +kernel), ?_⟩
  replace h := zq_nx3 (q := 40) h rfl
  refine ⟨zq_k_n 27 h rfl (zq_o_27 _), ?_⟩
  replace h := zq_nx1 (q := 41) h rfl
  refine ⟨zq_k_n 28 h rfl (zq_o_28 _), ?_⟩
  replace h := zq_nx1 (q := 42) h rfl
  refine ⟨zq_k_n 29 h rfl (zq_o_29 _), ?_⟩
  replace h := zq_nx1 (q := 43) h rfl
  refine ⟨zq_k_u2 184 (fun z => .invokestatic z) 93 h rfl (zq_o_184 _) (by decide +kernel), ?_⟩
  replace h := zq_nx3 (q := 46) h rfl
  refine ⟨zq_k_n 42 h rfl (zq_o_42 _), ?_⟩
  replace h := zq_nx1 (q := 47) h rfl
  refine ⟨zq_k_u2 180 (fun z => .getfield z) 27 h rfl (zq_o_180 _) (by decide +kernel), ?_⟩
  replace h := zq_nx3 (q := 50) h rfl
  refine ⟨zq_k_n 27 h rfl (zq_o_27 _), ?_⟩
  replace h := zq_nx1 (q := 51) h rfl
  refine ⟨zq_k_n 47 h rfl (zq_o_47 _), ?_⟩
  replace h := zq_nx1 (q := 52) h rfl
  refine ⟨zq_k_n 42 h rfl (zq_o_42 _), ?_⟩
  replace h := zq_nx1 (q := 53) h rfl
  refine ⟨zq_k_u2 180 (fun z => .getfield z) 27 h rfl (zq_o_180 _) (by decide +kernel), ?_⟩
  replace h := zq_nx3 (q := 56) h rfl
  refine ⟨zq_k_s1 16 (fun z => .bipush z) 6 h rfl (zq_o_16 _) (by decide +kernel), ?_⟩
  replace h := zq_nx2 (q := 58) h rfl
  refine ⟨zq_k_n 28 h rfl (zq_o_28 _), ?_⟩
  replace h := zq_nx1 (q := 59) h rfl
  refine ⟨zq_k_n 96 h rfl (zq_o_96 _), ?_⟩
  replace h := zq_nx1 (q := 60) h rfl
  refine ⟨zq_k_n 47 h rfl (zq_o_47 _), ?_⟩
  replace h := zq_nx1 (q := 61) h rfl
  refine ⟨zq_k_n 105 h rfl (zq_o_105 _), ?_⟩
  replace h := zq_nx1 (q := 62) h rfl
  refine ⟨zq_k_n 42 h rfl (zq_o_42 _), ?_⟩
  replace h := zq_nx1 (q := 63) h rfl
  refine ⟨zq_k_u2 180 (fun z => .getfield z) 27 h rfl (zq_o_180 _) (by decide +kernel), ?_⟩
  replace h := zq_nx3 (q := 66) h rfl
  refine ⟨zq_k_s1 16 (fun z => .bipush z) 12 h rfl (zq_o_16 _) (by decide +kernel), ?_⟩
  replace h := zq_nx2 (q := 68) h rfl
  refine ⟨zq_k_n 29 h rfl (zq_o_29 _), ?_⟩
  replace h := zq_nx1 (q := 69) h rfl
  refine ⟨zq_k_n 96 h rfl (zq_o_96 _), ?_⟩
  replace h := zq_nx1 (q := 70) h rfl
  refine ⟨zq_k_n 47 h rfl (zq_o_47 _), ?_⟩
  replace h := zq_nx1 (q := 71) h rfl
  exact zq_k_n 105 h rfl (zq_o_105 _)
theorem d_Tables_joinAll_36 : decode prog_8_method_6_code 36 = .ok (.aload_n 0, 1) := dd_Tables_joinAll_36.1
theorem d_Tables_joinAll_37 : decode prog_8_method_6_code 37 = .ok (.getfield 31, 3) := dd_Tables_joinAll_36.2.1
theorem d_Tables_joinAll_40 : decode prog_8_method_6_code 40 = .ok (.iload_n 1, 1) := dd_Tables_joinAll_36.2.2.1
theorem d_Tables_joinAll_41 : decode prog_8_method_6_code 41 = .ok (.iload_n 2, 1) := dd_Tables_joinAll_36.2.2.2.1
theorem d_Tables_joinAll_42 : decode prog_8_method_6_code 42 = .ok (.iload_n 3, 1) := dd_Tables_joinAll_36.2.2.2.2.1
theorem d_Tables_joinAll_43 : decode prog_8_method_6_code 43 = .ok (.invokestatic 93, 3) := dd_Tables_joinAll_36.2.2.2.2.2.1
theorem d_Tables_joinAll_46 : decode prog_8_method_6_code 46 = .ok (.aload_n 0, 1) := dd_Tables_joinAll_36.2.2.2.2.2.2.1
theorem d_Tables_joinAll_47 : decode prog_8_method_6_code 47 = .ok (.getfield 27, 3) := dd_Tables_joinAll_36.2.2.2.2.2.2.2.1
theorem d_Tables_joinAll_50 : decode prog_8_method_6_code 50 = .ok (.iload_n 1, 1) := dd_Tables_joinAll_36.2.2.2.2.2.2.2.2.1
theorem d_Tables_joinAll_51 : decode prog_8_method_6_code 51 = .ok (.laload, 1) := dd_Tables_joinAll_36.2.2.2.2.2.2.2.2.2.1
theorem d_Tables_joinAll_52 : decode prog_8_method_6_code 52 = .ok (.aload_n 0, 1) := dd_Tables_joinAll_36.2.2.2.2.2.2.2.2.2.2.1
theorem d_Tables_joinAll_53 : decode prog_8_method_6_code 53 = .ok (.getfield 27, 3) := dd_Tables_joinAll_36.2.2.2.2.2.2.2.2.2.2.2.1
theorem d_Tables_joinAll_56 : decode prog_8_method_6_code 56 = .ok (.bipush 6, 2) := dd_Tables_joinAll_36.2.2.2.2.2.2.2.2.2.2.2.2.1
theorem d_Tables_joinAll_58 : decode prog_8_method_6_code 58 = .ok (.iload_n 2, 1) := dd_Tables_joinAll_36.2.2.2.2.2.2.2.2.2.2.2.2.2.1
theorem d_Tables_joinAll_59 : decode prog_8_method_6_code 59 = .ok (.iadd, 1) := dd_Tables_joinAll_36.2.2.2.2.2.2.2.2.2.2.2.2.2.2.1
theorem d_Tables_joinAll_60 : decode prog_8_method_6_code 60 = .ok (.laload, 1) := dd_Tables_joinAll_36.2.2.2.2.2.2.2.2.2.2.2.2.2.2.2.1
theorem d_Tables_joinAll_61 : decode prog_8_method_6_code 61 = .ok (.lmul, 1) := dd_Tables_joinAll_36.2.2.2.2.2.2.2.2.2.2.2.2.2.2.2.2.1
theorem d_Tables_joinAll_62 : decode prog_8_method_6_code 62 = .ok (.aload_n 0, 1) := dd_Tables_joinAll_36.2.2.2.2.2.2.2.2.2.2.2.2.2.2.2.2.2.1
theorem d_Tables_joinAll_63 : decode prog_8_method_6_code 63 = .ok (.getfield 27, 3) := dd_Tables_joinAll_36.2.2.2.2.2.2.2.2.2.2.2.2.2.2.2.2.2.2.1
theorem d_Tables_joinAll_66 : decode prog_8_method_6_code 66 = .ok (.bipush 12, 2) := dd_Tables_joinAll_36.2.2.2.2.2.2.2.2.2.2.2.2.2.2.2.2.2.2.2.1
theorem d_Tables_joinAll_68 : decode prog_8_method_6_code 68 = .ok (.iload_n 3, 1) := dd_Tables_joinAll_36.2.2.2.2.2.2.2.2.2.2.2.2.2.2.2.2.2.2.2.2.1
theorem d_Tables_joinAll_69 : decode prog_8_method_6_code 69 = .ok (.iadd, 1) := dd_Tables_joinAll_36.2.2.2.2.2.2.2.2.2.2.2.2.2.2.2.2.2.2.2.2.2.1
theorem d_Tables_joinAll_70 : decode prog_8_method_6_code 70 = .ok (.laload, 1) := dd_Tables_joinAll_36.2.2.2.2.2.2.2.2.2.2.2.2.2.2.2.2.2.2.2.2.2.2.1
theorem d_Tables_joinAll_71 : decode prog_8_method_6_code 71 = .ok (.lmul, 1) := dd_Tables_joinAll_36.2.2.2.2.2.2.2.2.2.2.2.2.2.2.2.2.2.2.2.2.2.2.2
set_option maxRecDepth 100000 in
theorem dd_Tables_joinAll_72 : (decode prog_8_method_6_code 72 = .ok (.lastore, 1)) ∧ (decode prog_8_method_6_code 73 = .ok (.iinc 3 1, 3)) ∧ (decode prog_8_method_6_code 76 = .ok (.goto (-50), 3)) ∧ (decode prog_8_method_6_code 79 = .ok (.iinc 2 1, 3)) ∧ (decode prog_8_method_6_code 82 = .ok (.goto (-68), 3)) ∧ (decode prog_8_method_6_code 85 = .ok (.iinc 1 1, 3)) ∧ (decode prog_8_method_6_code 88 = .ok (.goto (-86), 3)) ∧ (decode prog_8_method_6_code 91 = .ok (.return_, 1)) := by
  have h : List.drop 72 prog_8_method_6_code.data.toList = 0x50 :: _ := rfl
  refine ⟨zq_k_n 80 h rfl (zq_o_80 _), ?_⟩
  replace h := zq_nx1 (q := 73) h rfl
  refine ⟨zq_k_iinc 3 1 h rfl (zq_o_132 _) (by decide +kernel) (by decide +kernel), ?_⟩
  replace h := zq_nx3 (q := 76) h rfl
  refine ⟨zq_k_s2 167 (fun z => .goto z) (-50) h rfl (zq_o_167 _) (by decide +kernel), ?_⟩
  replace h := zq_nx3 (q := 79) h rfl
  refine ⟨zq_k_iinc 2 1 h rfl (zq_o_132 _) (by decide +kernel) (by decide +kernel), ?_⟩
  replace h := zq_nx3 (q := 82) h rfl
  refine ⟨zq_k_s2 167 (fun z => .goto z) (-68) h rfl (zq_o_167 _) (by decide +kernel), ?_⟩
  replace h := zq_nx3 (q := 85) h rfl
  refine ⟨zq_k_iinc 1 1 h rfl (zq_o_132 _) (by decide +kernel) (by decide +kernel), ?_⟩
  replace h := zq_nx3 (q := 88) h rfl
  refine ⟨zq_k_s2 167 (fun z => .goto z) (-86) h rfl (zq_o_167 _) (by decide +kernel), ?_⟩
  replace h := zq_nx3 (q := 91) h rfl
  exact zq_k_n 177 h rfl (zq_o_177 _)
theorem d_Tables_joinAll_72 : decode prog_8_method_6_code 72 = .ok (.lastore, 1) := dd_Tables_joinAll_72.1
theorem d_Tables_joinAll_73 : decode prog_8_method_6_code 73 = .ok (.iinc 3 1, 3) := dd_Tables_joinAll_72.2.1
theorem d_Tables_joinAll_76 : decode prog_8_method_6_code 76 = .ok (.goto (-50), 3) := dd_Tables_joinAll_72.2.2.1
theorem d_Tables_joinAll_79 : decode prog_8_method_6_code 79 = .ok (.iinc 2 1, 3) := dd_Tables_joinAll_72.2.2.2.1
theorem d_Tables_joinAll_82 : decode prog_8_method_6_code 82 = .ok (.goto (-68), 3) := dd_Tables_joinAll_72.2.2.2.2.1
theorem d_Tables_joinAll_85 : decode prog_8_method_6_code 85 = .ok (.iinc 1 1, 3) := dd_Tables_joinAll_72.2.2.2.2.2.1
theorem d_Tables_joinAll_88 : decode prog_8_method_6_code 88 = .ok (.goto (-86), 3) := dd_Tables_joinAll_72.2.2.2.2.2.2.1
theorem d_Tables_joinAll_91 : decode prog_8_method_6_code 91 = .ok (.return_, 1) := dd_Tables_joinAll_72.2.2.2.2.2.2.2
def f_Tables_joinAll_26b (rec2 : Nat → Int32 → mH → Option mH) (rec14 : Nat → Int32 → Int32 → mH → Option mH) (rec26 : Nat → Int32 → Int32 → Int32 → mH → Option mH) (b0 : Nat) (b1 : Int32) (b2 : Int32) (b3 : Int32) (h : mH) : Option mH :=
  bd1 (gR h b0 7 5) fun x11 =>
  bd1 (aI h 0 x11 (2 : Int32)) fun x13 =>
  if x13 < b3 then
    rec14 b0 b1 (b2 + (1 : Int32)) h
  else
    bd1 (gR h b0 7 7) fun x15 =>
    bd2 (f_Tables_stateOf b1 b2 b3 h) fun x19 h17 =>
    bd1 (gR h17 b0 7 6) fun x20 =>
    bd1 (aL h17 x20 b1) fun x22 =>
    bd1 (gR h17 b0 7 6) fun x24 =>
    bd1 (aL h17 x24 ((6 : Int32) + b2)) fun x26 =>
    bd1 (gR h17 b0 7 6) fun x28 =>
    bd1 (aL h17 x28 ((12 : Int32) + b3)) fun x30 =>
    bd1 (sL h17 x15 x19 ((x22 * x26) * x30)) fun h32 =>
    rec26 b0 b1 b2 (b3 + (1 : Int32)) h32
set_option maxRecDepth 20000 in
theorem t_Tables_joinAll_26b {sc : Nat × (Nat → Int32)} (rec2 : Nat → Int32 → mH → Option mH) (hrec2 : ∀ (b0 : Nat) (b1 : Int32) (h : mH) (h' : mH), rec2 b0 b1 h = some h' → G sc y_Tables_joinAll prog_8_method_6_code 4 none 1 22 2 [(0, .ref b0), (1, .int b1)] [] h none h') (rec14 : Nat → Int32 → Int32 → mH → Option mH) (hrec14 : ∀ (b0 : Nat) (b1 : Int32) (b2 : Int32) (h : mH) (h' : mH), rec14 b0 b1 b2 h = some h' → G sc y_Tables_joinAll prog_8_method_6_code 4 none 1 22 14 [(0, .ref b0), (1, .int b1), (2, .int b2)] [] h none h') (rec26 : Nat → Int32 → Int32 → Int32 → mH → Option mH) (hrec26 : ∀ (b0 : Nat) (b1 : Int32) (b2 : Int32) (b3 : Int32) (h : mH) (h' : mH), rec26 b0 b1 b2 b3 h = some h' → G sc y_Tables_joinAll prog_8_method_6_code 4 none 1 22 26 [(0, .ref b0), (1, .int b1), (2, .int b2), (3, .int b3)] [] h none h') (b0 : Nat) (b1 : Int32) (b2 : Int32) (b3 : Int32) (h : mH) (h' : mH) (hf : f_Tables_joinAll_26b rec2 rec14 rec26 b0 b1 b2 b3 h = some h') : G sc y_Tables_joinAll prog_8_method_6_code 4 none 1 22 26 [(0, .ref b0), (1, .int b1), (2, .int b2), (3, .int b3)] [] h none h' := by
  unfold f_Tables_joinAll_26b at hf
  refine g_iload_n (pc := 26) 3 d_Tables_joinAll_26 rfl rfl ?_
  refine g_aload_n (pc := 27) 0 d_Tables_joinAll_27 rfl rfl ?_
  obtain ⟨x11, e12, hf⟩ := bd1_e hf
  refine g_get (pc := 28) (ci := 7) (kk := 5) d_Tables_joinAll_28 rfl in_Tables (by decide) wd_241 (gR_spec e12) ?_
  refine g_iconst (pc := 31) (2 : Int32) d_Tables_joinAll_31 (by decide) ?_
  obtain ⟨x13, e14, hf⟩ := bd1_e hf
  refine g_iald (pc := 32) d_Tables_joinAll_32 e14 ?_
  refine g_icmpgt (pc := 33) 79 d_Tables_joinAll_33 (by decide) (fun c34 => ?_) (fun c34 => ?_)
  · replace hf := (if_pos c34).symm.trans hf
    refine g_iinc (pc := 79) 2 (b2 + (1 : Int32)) [(2, .int (b2 + (1 : Int32))), (0, .ref b0), (1, .int b1), (3, .int b3)] d_Tables_joinAll_79 rfl rfl (Nat.le_of_ble_eq_true rfl) rfl ?_
    refine g_goto (pc := 82) 14 d_Tables_joinAll_82 (by decide) ?_
    refine g_lv [1, 2, 0] rfl ?_
    exact hrec14 _ _ _ _ _  hf
  · replace hf := (if_neg c34).symm.trans hf
    refine g_aload_n (pc := 36) 0 d_Tables_joinAll_36 rfl rfl ?_
    obtain ⟨x15, e16, hf⟩ := bd1_e hf
    refine g_get (pc := 37) (ci := 7) (kk := 7) d_Tables_joinAll_37 rfl in_Tables (by decide) wd_243 (gR_spec e16) ?_
    refine g_iload_n (pc := 40) 1 d_Tables_joinAll_40 rfl rfl ?_
    refine g_iload_n (pc := 41) 2 d_Tables_joinAll_41 rfl rfl ?_
    refine g_iload_n (pc := 42) 3 d_Tables_joinAll_42 rfl rfl ?_
    obtain ⟨x19, h17, e18, hf⟩ := bd2_e hf
    refine g_callS (pc := 43) [.int b1, .int b2, .int b3] (site_of si_Tables_stateOf (by decide) (by decide)) wd_808 wd_809 d_Tables_joinAll_43 (Nat.le_of_ble_eq_true rfl) (fun z => absurd z (by decide)) (fun z => absurd z (by decide)) (fun z => absurd z (by decide)) (c_Tables_stateOf e18) rfl ?_
    refine g_st [.int x19, .ref x15] rfl ?_
    refine g_aload_n (pc := 46) 0 d_Tables_joinAll_46 rfl rfl ?_
    obtain ⟨x20, e21, hf⟩ := bd1_e hf
    refine g_get (pc := 47) (ci := 7) (kk := 6) d_Tables_joinAll_47 rfl in_Tables (by decide) wd_242 (gR_spec e21) ?_
    refine g_iload_n (pc := 50) 1 d_Tables_joinAll_50 rfl rfl ?_
    obtain ⟨x22, e23, hf⟩ := bd1_e hf
    refine g_lald (pc := 51) d_Tables_joinAll_51 e23 ?_
    refine g_aload_n (pc := 52) 0 d_Tables_joinAll_52 rfl rfl ?_
    obtain ⟨x24, e25, hf⟩ := bd1_e hf
    refine g_get (pc := 53) (ci := 7) (kk := 6) d_Tables_joinAll_53 rfl in_Tables (by decide) wd_242 (gR_spec e25) ?_
    refine g_bipush (pc := 56) (6 : Int32) d_Tables_joinAll_56 (by decide) ?_
    refine g_iload_n (pc := 58) 2 d_Tables_joinAll_58 rfl rfl ?_
    refine g_iadd (pc := 59) d_Tables_joinAll_59 ?_
    obtain ⟨x26, e27, hf⟩ := bd1_e hf
    refine g_lald (pc := 60) d_Tables_joinAll_60 e27 ?_
    refine g_lmul (pc := 61) d_Tables_joinAll_61 ?_
    refine g_aload_n (pc := 62) 0 d_Tables_joinAll_62 rfl rfl ?_
    obtain ⟨x28, e29, hf⟩ := bd1_e hf
    refine g_get (pc := 63) (ci := 7) (kk := 6) d_Tables_joinAll_63 rfl in_Tables (by decide) wd_242 (gR_spec e29) ?_
    refine g_bipush (pc := 66) (12 : Int32) d_Tables_joinAll_66 (by decide) ?_
    refine g_iload_n (pc := 68) 3 d_Tables_joinAll_68 rfl rfl ?_
    refine g_iadd (pc := 69) d_Tables_joinAll_69 ?_
    obtain ⟨x30, e31, hf⟩ := bd1_e hf
    refine g_lald (pc := 70) d_Tables_joinAll_70 e31 ?_
    refine g_lmul (pc := 71) d_Tables_joinAll_71 ?_
    obtain ⟨h32, e33, hf⟩ := bd1_e hf
    refine g_last (pc := 72) d_Tables_joinAll_72 e33 ?_
    refine g_iinc (pc := 73) 3 (b3 + (1 : Int32)) [(3, .int (b3 + (1 : Int32))), (0, .ref b0), (1, .int b1), (2, .int b2)] d_Tables_joinAll_73 rfl rfl (Nat.le_of_ble_eq_true rfl) rfl ?_
    refine g_goto (pc := 76) 26 d_Tables_joinAll_76 (by decide) ?_
    refine g_lv [1, 2, 3, 0] rfl ?_
    exact hrec26 _ _ _ _ _ _  hf
def f_Tables_joinAll_26 (rec2 : Nat → Int32 → mH → Option mH) (rec14 : Nat → Int32 → Int32 → mH → Option mH) : Nat → Nat → Int32 → Int32 → Int32 → mH → Option mH
  | 0 => fun _ _ _ _ _ => none
  | n + 1 => f_Tables_joinAll_26b rec2 rec14 (f_Tables_joinAll_26 rec2 rec14 n)
theorem t_Tables_joinAll_26 {sc : Nat × (Nat → Int32)} (rec2 : Nat → Int32 → mH → Option mH) (hrec2 : ∀ (b0 : Nat) (b1 : Int32) (h : mH) (h' : mH), rec2 b0 b1 h = some h' → G sc y_Tables_joinAll prog_8_method_6_code 4 none 1 22 2 [(0, .ref b0), (1, .int b1)] [] h none h') (rec14 : Nat → Int32 → Int32 → mH → Option mH) (hrec14 : ∀ (b0 : Nat) (b1 : Int32) (b2 : Int32) (h : mH) (h' : mH), rec14 b0 b1 b2 h = some h' → G sc y_Tables_joinAll prog_8_method_6_code 4 none 1 22 14 [(0, .ref b0), (1, .int b1), (2, .int b2)] [] h none h') : ∀ (n : Nat) (b0 : Nat) (b1 : Int32) (b2 : Int32) (b3 : Int32) (h : mH) (h' : mH) (hf : f_Tables_joinAll_26 rec2 rec14 n b0 b1 b2 b3 h = some h'), G sc y_Tables_joinAll prog_8_method_6_code 4 none 1 22 26 [(0, .ref b0), (1, .int b1), (2, .int b2), (3, .int b3)] [] h none h'
  | 0, _, _, _, _, _, _, hf => by cases hf
  | n + 1, _, _, _, _, _, _, hf => t_Tables_joinAll_26b rec2 hrec2 rec14 hrec14 (f_Tables_joinAll_26 rec2 rec14 n) (t_Tables_joinAll_26 rec2 hrec2 rec14 hrec14 n) _ _ _ _ _ _ hf
def f_Tables_joinAll_14b (rec2 : Nat → Int32 → mH → Option mH) (rec14 : Nat → Int32 → Int32 → mH → Option mH) (b0 : Nat) (b1 : Int32) (b2 : Int32) (h : mH) : Option mH :=
  bd1 (gR h b0 7 5) fun x6 =>
  bd1 (aI h 0 x6 (1 : Int32)) fun x8 =>
  if x8 < b2 then
    rec2 b0 (b1 + (1 : Int32)) h
  else
    f_Tables_joinAll_26 rec2 rec14 FU b0 b1 b2 (0 : Int32) h
set_option maxRecDepth 20000 in
theorem t_Tables_joinAll_14b {sc : Nat × (Nat → Int32)} (rec2 : Nat → Int32 → mH → Option mH) (hrec2 : ∀ (b0 : Nat) (b1 : Int32) (h : mH) (h' : mH), rec2 b0 b1 h = some h' → G sc y_Tables_joinAll prog_8_method_6_code 4 none 1 22 2 [(0, .ref b0), (1, .int b1)] [] h none h') (rec14 : Nat → Int32 → Int32 → mH → Option mH) (hrec14 : ∀ (b0 : Nat) (b1 : Int32) (b2 : Int32) (h : mH) (h' : mH), rec14 b0 b1 b2 h = some h' → G sc y_Tables_joinAll prog_8_method_6_code 4 none 1 22 14 [(0, .ref b0), (1, .int b1), (2, .int b2)] [] h none h') (b0 : Nat) (b1 : Int32) (b2 : Int32) (h : mH) (h' : mH) (hf : f_Tables_joinAll_14b rec2 rec14 b0 b1 b2 h = some h') : G sc y_Tables_joinAll prog_8_method_6_code 4 none 1 22 14 [(0, .ref b0), (1, .int b1), (2, .int b2)] [] h none h' := by
  unfold f_Tables_joinAll_14b at hf
  refine g_iload_n (pc := 14) 2 d_Tables_joinAll_14 rfl rfl ?_
  refine g_aload_n (pc := 15) 0 d_Tables_joinAll_15 rfl rfl ?_
  obtain ⟨x6, e7, hf⟩ := bd1_e hf
  refine g_get (pc := 16) (ci := 7) (kk := 5) d_Tables_joinAll_16 rfl in_Tables (by decide) wd_241 (gR_spec e7) ?_
  refine g_iconst (pc := 19) (1 : Int32) d_Tables_joinAll_19 (by decide) ?_
  obtain ⟨x8, e9, hf⟩ := bd1_e hf
  refine g_iald (pc := 20) d_Tables_joinAll_20 e9 ?_
  refine g_icmpgt (pc := 21) 85 d_Tables_joinAll_21 (by decide) (fun c10 => ?_) (fun c10 => ?_)
  · replace hf := (if_pos c10).symm.trans hf
    refine g_iinc (pc := 85) 1 (b1 + (1 : Int32)) [(1, .int (b1 + (1 : Int32))), (0, .ref b0), (2, .int b2)] d_Tables_joinAll_85 rfl rfl (Nat.le_of_ble_eq_true rfl) rfl ?_
    refine g_goto (pc := 88) 2 d_Tables_joinAll_88 (by decide) ?_
    refine g_lv [1, 0] rfl ?_
    exact hrec2 _ _ _ _  hf
  · replace hf := (if_neg c10).symm.trans hf
    refine g_iconst (pc := 24) (0 : Int32) d_Tables_joinAll_24 (by decide) ?_
    refine g_istore_n (pc := 25) [(3, .int (0 : Int32)), (0, .ref b0), (1, .int b1), (2, .int b2)] d_Tables_joinAll_25 rfl (Nat.le_of_ble_eq_true rfl) rfl ?_
    refine g_lv [1, 2, 3, 0] rfl ?_
    exact t_Tables_joinAll_26 rec2 hrec2 rec14 hrec14 FU _ _ _ _ _ _  hf
def f_Tables_joinAll_14 (rec2 : Nat → Int32 → mH → Option mH) : Nat → Nat → Int32 → Int32 → mH → Option mH
  | 0 => fun _ _ _ _ => none
  | n + 1 => f_Tables_joinAll_14b rec2 (f_Tables_joinAll_14 rec2 n)
theorem t_Tables_joinAll_14 {sc : Nat × (Nat → Int32)} (rec2 : Nat → Int32 → mH → Option mH) (hrec2 : ∀ (b0 : Nat) (b1 : Int32) (h : mH) (h' : mH), rec2 b0 b1 h = some h' → G sc y_Tables_joinAll prog_8_method_6_code 4 none 1 22 2 [(0, .ref b0), (1, .int b1)] [] h none h') : ∀ (n : Nat) (b0 : Nat) (b1 : Int32) (b2 : Int32) (h : mH) (h' : mH) (hf : f_Tables_joinAll_14 rec2 n b0 b1 b2 h = some h'), G sc y_Tables_joinAll prog_8_method_6_code 4 none 1 22 14 [(0, .ref b0), (1, .int b1), (2, .int b2)] [] h none h'
  | 0, _, _, _, _, _, hf => by cases hf
  | n + 1, _, _, _, _, _, hf => t_Tables_joinAll_14b rec2 hrec2 (f_Tables_joinAll_14 rec2 n) (t_Tables_joinAll_14 rec2 hrec2 n) _ _ _ _ _ hf
def f_Tables_joinAll_2b (rec2 : Nat → Int32 → mH → Option mH) (b0 : Nat) (b1 : Int32) (h : mH) : Option mH :=
  bd1 (gR h b0 7 5) fun x1 =>
  bd1 (aI h 0 x1 (0 : Int32)) fun x3 =>
  if x3 < b1 then
    some h
  else
    f_Tables_joinAll_14 rec2 FU b0 b1 (0 : Int32) h
set_option maxRecDepth 20000 in
theorem t_Tables_joinAll_2b {sc : Nat × (Nat → Int32)} (rec2 : Nat → Int32 → mH → Option mH) (hrec2 : ∀ (b0 : Nat) (b1 : Int32) (h : mH) (h' : mH), rec2 b0 b1 h = some h' → G sc y_Tables_joinAll prog_8_method_6_code 4 none 1 22 2 [(0, .ref b0), (1, .int b1)] [] h none h') (b0 : Nat) (b1 : Int32) (h : mH) (h' : mH) (hf : f_Tables_joinAll_2b rec2 b0 b1 h = some h') : G sc y_Tables_joinAll prog_8_method_6_code 4 none 1 22 2 [(0, .ref b0), (1, .int b1)] [] h none h' := by
  unfold f_Tables_joinAll_2b at hf
  refine g_iload_n (pc := 2) 1 d_Tables_joinAll_2 rfl rfl ?_
  refine g_aload_n (pc := 3) 0 d_Tables_joinAll_3 rfl rfl ?_
  obtain ⟨x1, e2, hf⟩ := bd1_e hf
  refine g_get (pc := 4) (ci := 7) (kk := 5) d_Tables_joinAll_4 rfl in_Tables (by decide) wd_241 (gR_spec e2) ?_
  refine g_iconst (pc := 7) (0 : Int32) d_Tables_joinAll_7 (by decide) ?_
  obtain ⟨x3, e4, hf⟩ := bd1_e hf
  refine g_iald (pc := 8) d_Tables_joinAll_8 e4 ?_
  refine g_icmpgt (pc := 9) 91 d_Tables_joinAll_9 (by decide) (fun c5 => ?_) (fun c5 => ?_)
  · replace hf := (if_pos c5).symm.trans hf
    obtain rfl := ret1 hf
    exact g_vret (pc := 91) rfl d_Tables_joinAll_91
  · replace hf := (if_neg c5).symm.trans hf
    refine g_iconst (pc := 12) (0 : Int32) d_Tables_joinAll_12 (by decide) ?_
    refine g_istore_n (pc := 13) [(2, .int (0 : Int32)), (0, .ref b0), (1, .int b1)] d_Tables_joinAll_13 rfl (Nat.le_of_ble_eq_true rfl) rfl ?_
    refine g_lv [1, 2, 0] rfl ?_
    exact t_Tables_joinAll_14 rec2 hrec2 FU _ _ _ _ _  hf
def f_Tables_joinAll_2  : Nat → Nat → Int32 → mH → Option mH
  | 0 => fun _ _ _ => none
  | n + 1 => f_Tables_joinAll_2b  (f_Tables_joinAll_2  n)
theorem t_Tables_joinAll_2 {sc : Nat × (Nat → Int32)}  : ∀ (n : Nat) (b0 : Nat) (b1 : Int32) (h : mH) (h' : mH) (hf : f_Tables_joinAll_2  n b0 b1 h = some h'), G sc y_Tables_joinAll prog_8_method_6_code 4 none 1 22 2 [(0, .ref b0), (1, .int b1)] [] h none h'
  | 0, _, _, _, _, hf => by cases hf
  | n + 1, _, _, _, _, hf => t_Tables_joinAll_2b  (f_Tables_joinAll_2  n) (t_Tables_joinAll_2  n) _ _ _ _ hf
def f_Tables_joinAll_0  (a0 : Nat) (h : mH) : Option mH :=
  f_Tables_joinAll_2  FU a0 (0 : Int32) h
set_option maxRecDepth 20000 in
theorem t_Tables_joinAll_0 {sc : Nat × (Nat → Int32)}  (a0 : Nat) (h : mH) (h' : mH) (hf : f_Tables_joinAll_0  a0 h = some h') : G sc y_Tables_joinAll prog_8_method_6_code 4 none 1 22 0 [(0, .ref a0)] [] h none h' := by
  unfold f_Tables_joinAll_0 at hf
  refine g_iconst (pc := 0) (0 : Int32) d_Tables_joinAll_0 (by decide) ?_
  refine g_istore_n (pc := 1) [(1, .int (0 : Int32)), (0, .ref a0)] d_Tables_joinAll_1 rfl (Nat.le_of_ble_eq_true rfl) rfl ?_
  refine g_lv [1, 0] rfl ?_
  exact t_Tables_joinAll_2  FU _ _ _ _  hf
def f_Tables_joinAll (a0 : Nat) (h : mH) : Option mH := f_Tables_joinAll_0 a0 h
theorem c_Tables_joinAll {sc : Nat × (Nat → Int32)} {a0 : Nat} {h : mH} {h' : mH} (hf : f_Tables_joinAll a0 h = some h') : MM sc y_Tables_joinAll prog_8_method_6_code 4 none 1 22 [.ref a0] h none h' :=
  mm_of_G (by decide) (Nat.le_of_ble_eq_true rfl) (t_Tables_joinAll_0 _ _ _ hf)
