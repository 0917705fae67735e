/-! M text ()I -/
set_option maxRecDepth 100000 in
theorem dd_M_text_0 : (decode prog_10_method_21_code 0 = .ok (.iconst 0, 1)) ∧ (decode prog_10_method_21_code 1 = .ok (.istore_n 1, 1)) ∧ (decode prog_10_method_21_code 2 = .ok (.aload_n 0, 1)) ∧ (decode prog_10_method_21_code 3 = .ok (.iconst 0, 1)) ∧ (decode prog_10_method_21_code 4 = .ok (.putfield 121, 3)) ∧ (decode prog_10_method_21_code 7 = .ok (.aload_n 0, 1)) ∧ (decode prog_10_method_21_code 8 = .ok (.iconst 0, 1)) ∧ (decode prog_10_method_21_code 9 = .ok (.putfield 130, 3)) ∧ (decode prog_10_method_21_code 12 = .ok (.aload_n 0, 1)) ∧ (decode prog_10_method_21_code 13 = .ok (.invokevirtual 87, 3)) ∧ (decode prog_10_method_21_code 16 = .ok (.aload_n 0, 1)) ∧ (decode prog_10_method_21_code 17 = .ok (.invokevirtual 162, 3)) ∧ (decode prog_10_method_21_code 20 = .ok (.aload_n 0, 1)) ∧ (decode prog_10_method_21_code 21 = .ok (.getfield 121, 3)) ∧ (decode prog_10_method_21_code 24 = .ok (.ifCond .ne 20, 3)) ∧ (decode prog_10_method_21_code 27 = .ok (.aload_n 0, 1)) ∧ (decode prog_10_method_21_code 28 = .ok (.getfield 141, 3)) ∧ (decode prog_10_method_21_code 31 = .ok (.ifCond .eq 13, 3)) ∧ (decode prog_10_method_21_code 34 = .ok (.aload_n 0, 1)) ∧ (decode prog_10_method_21_code 35 = .ok (.invokevirtual 185, 3)) ∧ (decode prog_10_method_21_code 38 = .ok (.iinc 1 1, 3)) ∧ (decode prog_10_method_21_code 41 = .ok (.goto (-21), 3)) ∧ (decode prog_10_method_21_code 44 = .ok (.aload_n 0, 1)) ∧ (decode prog_10_method_21_code 45 = .ok (.getfield 121, 3)) := by
  have h : List.drop 0 prog_10_method_21_code.data.toList = 0x03 :: _ := rfl
  refine ⟨zq_k_n 3 h rfl (zq_o_3 _), ?_⟩
  replace h := zq_nx1 (q := 1) h rfl
  refine ⟨zq_k_n 60 h rfl (zq_o_60 _), ?_⟩
  replace h := zq_nx1 (q := 2) h rfl
  refine ⟨zq_k_n 42 h rfl (zq_o_42 _), ?_⟩
  replace h := zq_nx1 (q := 3) h rfl
  refine ⟨zq_k_n 3 h rfl (zq_o_3 _), ?_⟩
  replace h := zq_nx1 (q := 4) h rfl
  refine ⟨zq_k_u2 181 (fun z => .putfield z) 121 h rfl (zq_o_181 _) (by decide +kernel), ?_⟩
  replace h := zq_nx3 (q := 7) h rfl
  refine ⟨zq_k_n 42 h rfl (zq_o_42 _), ?_⟩
  replace h := zq_nx1 (q := 8) h rfl
  refine ⟨zq_k_n 3 h rfl (zq_o_3 _), ?_⟩
  replace h := zq_nx1 (q := 9) h rfl
  refine ⟨zq_k_u2 181 (fun z => .putfield z) 130 h rfl (zq_o_181 _) (by decide +kernel), ?_⟩
  replace h := zq_nx3 (q := 12) h rfl
  refine ⟨zq_k_n 42 h rfl (zq_o_42 _), ?_⟩
  replace h := zq_nx1 (q := 13) h rfl
  refine ⟨zq_k_u2 182 (fun z => .invokevirtual z) 87 h rfl (zq_o_182 _) (by decide +kernel), ?_⟩
  replace h := zq_nx3 (q := 16) h rfl
  refine ⟨zq_k_n 42 h rfl (zq_o_42 _), ?_⟩
  replace h := zq_nx1 (q := 17) h rfl
  refine ⟨zq_k_u2 182 (fun z => .invokevirtual z) 162 h rfl (zq_o_182 _) (by decide +kernel), ?_⟩
  replace h := zq_nx3 (q := 20) h rfl
  refine ⟨zq_k_n 42 h rfl (zq_o_42 _), ?_⟩
  replace h := zq_nx1 (q := 21) h rfl
  refine ⟨zq_k_u2 180 (fun z => .getfield z) 121 h rfl (zq_o_180 _) (by decide +kernel), ?_⟩
  replace h := zq_nx3 (q := 24) h rfl
  refine ⟨zq_k_s2 154 (fun z => .ifCond .ne z) 20 h rfl (zq_o_154 _) (by decide +kernel), ?_⟩
  replace h := zq_nx3 (q := 27) h rfl
  refine ⟨zq_k_n 42 h rfl (zq_o_42 _), ?_⟩
  replace h := zq_nx1 (q := 28) h rfl
  refine ⟨zq_k_u2 180 (fun z => .getfield z) 141 h rfl (zq_o_180 _) (by decide +kernel), ?_⟩
  replace h := zq_nx3 (q := 31) h rfl
  refine ⟨zq_k_s2 153 (fun z => .ifCond .eq z) 13 h rfl (zq_o_153 _) (by decide +kernel), ?_⟩
  replace h := zq_nx3 (q := 34) h rfl
  refine ⟨zq_k_n 42 h rfl (zq_o_42 _), ?_⟩
  replace h := zq_nx1 (q := 35) h rfl
  refine ⟨zq_k_u2 182 (fun z => .invokevirtual z) 185 h rfl (zq_o_182 _) (by decide +kernel), ?_⟩
  replace h := zq_nx3 (q := 38) h rfl
  refine ⟨zq_k_iinc 1 1 h rfl (zq_o_132 _) (by decide +kernel) (by decide +kernel), ?_⟩
  replace h := zq_nx3 (q := 41) h rfl
  refine ⟨zq_k_s2 167 (fun z => .goto z) (-21) h rfl (zq_o_167 _) (by decide +kernel), ?_⟩
  replace h := zq_nx3 (q := 44) h rfl
  refine ⟨zq_k_n 42 h rfl (zq_o_42 _), ?_⟩
  replace h := zq_nx1 (q := 45) h rfl
  exact zq_k_u2 180 (fun z => .getfield z) 121 h rfl (zq_o_180 _) (by decide +kernel)
theorem d_M_text_0 : decode prog_10_method_21_code 0 = .ok (.iconst 0, 1) := dd_M_text_0.1
theorem d_M_text_1 : decode prog_10_method_21_code 1 = .ok (.istore_n 1, 1) := dd_M_text_0.2.1
theorem d_M_text_2 : decode prog_10_method_21_code 2 = .ok (.aload_n 0, 1) := dd_M_text_0.2.2.1
theorem d_M_text_3 : decode prog_10_method_21_code 3 = .ok (.iconst 0, 1) := dd_M_text_0.2.2.2.1
theorem d_M_text_4 : decode prog_10_method_21_code 4 = .ok (.putfield 121, 3) := dd_M_text_0.2.2.2.2.1
theorem d_M_text_7 : decode prog_10_method_21_code 7 = .ok (.aload_n 0, 1) := dd_M_text_0.2.2.2.2.2.1
theorem d_M_text_8 : decode prog_10_method_21_code 8 = .ok (.iconst 0, 1) := dd_M_text_0.2.2.2.2.2.2.1
theorem d_M_text_9 : decode prog_10_method_21_code 9 = .ok (.putfield 130, 3) := dd_M_text_0.2.2.2.2.2.2.2.1
theorem d_M_text_12 : decode prog_10_method_21_code 12 = .ok (.aload_n 0, 1) := dd_M_text_0.2.2.2.2.2.2.2.2.1
theorem d_M_text_13 : decode prog_10_method_21_code 13 = .ok (.invokevirtual 87, 3) := dd_M_text_0.2.2.2.2.2.2.2.2.2.1
theorem d_M_text_16 : decode prog_10_method_21_code 16 = .ok (.aload_n 0, 1) := dd_M_text_0.2.2.2.2.2.2.2.2.2.2.1
theorem d_M_text_17 : decode prog_10_method_21_code 17 = .ok (.invokevirtual 162, 3) := dd_M_text_0.2.2.2.2.2.2.2.2.2.2.2.1
theorem d_M_text_20 : decode prog_10_method_21_code 20 = .ok (.aload_n 0, 1) := dd_M_text_0.2.2.2.2.2.2.2.2.2.2.2.2.1
theorem d_M_text_21 : decode prog_10_method_21_code 21 = .ok (.getfield 121, 3) := dd_M_text_0.2.2.2.2.2.2.2.2.2.2.2.2.2.1
theorem d_M_text_24 : decode prog_10_method_21_code 24 = .ok (.ifCond .ne 20, 3) := dd_M_text_0.2.2.2.2.2.2.2.2.2.2.2.2.2.2.1
theorem d_M_text_27 : decode prog_10_method_21_code 27 = .ok (.aload_n 0, 1) := dd_M_text_0.2.2.2.2.2.2.2.2.2.2.2.2.2.2.2.1
theorem d_M_text_28 : decode prog_10_method_21_code 28 = .ok (.getfield 141, 3) := dd_M_text_0.2.2.2.2.2.2.2.2.2.2.2.2.2.2.2.2.1
theorem d_M_text_31 : decode prog_10_method_21_code 31 = .ok (.ifCond .eq 13, 3) := dd_M_text_0.2.2.2.2.2.2.2.2.2.2.2.2.2.2.2.2.2.1
theorem d_M_text_34 : decode prog_10_method_21_code 34 = .ok (.aload_n 0, 1) := dd_M_text_0.2.2.2.2.2.2.2.2.2.2.2.2.2.2.2.2.2.2.1
theorem d_M_text_35 : decode prog_10_method_21_code 35 = .ok (.invokevirtual 185, 3) := dd_M_text_0.2.2.2.2.2.2.2.2.2.2.2.2.2.2.2.2.2.2.2.1
theorem d_M_text_38 : decode prog_10_method_21_code 38 = .ok (.iinc 1 1, 3) := dd_M_text_0.2.2.2.2.2.2.2.2.2.2.2.2.2.2.2.2.2.2.2.2.1
theorem d_M_text_41 : decode prog_10_method_21_code 41 = .ok (.goto (-21), 3) := dd_M_text_0.2.2.2.2.2.2.2.2.2.2.2.2.2.2.2.2.2.2.2.2.2.1
theorem d_M_text_44 : decode prog_10_method_21_code 44 = .ok (.aload_n 0, 1) := dd_M_text_0.2.2.2.2.2.2.2.2.2.2.2.2.2.2.2.2.2.2.2.2.2.2.1
theorem d_M_text_45 : decode prog_10_method_21_code 45 = .ok (.getfield 121, 3) := dd_M_text_0.2.2.2.2.2.2.2.2.2.2.2.2.2.2.2.2.2.2.2.2.2.2.2
set_option maxRecDepth 100000 in
theorem dd_M_text_48 : (decode prog_10_method_21_code 48 = .ok (.ifCond .ne 36, 3)) ∧ (decode prog_10_method_21_code 51 = .ok (.aload_n 0, 1)) ∧ (decode prog_10_method_21_code 52 = .ok (.aload_n 0, 1)) ∧ (decode prog_10_method_21_code 53 = .ok (.getfield 100, 3)) ∧ (decode prog_10_method_21_code 56 = .ok (.aload_n 0, 1)) ∧ (decode prog_10_method_21_code 57 = .ok (.getfield 93, 3)) ∧ (decode prog_10_method_21_code 60 = .ok (.if_icmp .ge 18, 3)) ∧ (decode prog_10_method_21_code 63 = .ok (.aload_n 0, 1)) ∧ (decode prog_10_method_21_code 64 = .ok (.getfield 103, 3)) ∧ (decode prog_10_method_21_code 67 = .ok (.aload_n 0, 1)) ∧ (decode prog_10_method_21_code 68 = .ok (.getfield 97, 3)) ∧ (decode prog_10_method_21_code 71 = .ok (.if_icmp .ge 7, 3)) ∧ (decode prog_10_method_21_code 74 = .ok (.iconst 1, 1)) ∧ (decode prog_10_method_21_code 75 = .ok (.goto 4, 3)) ∧ (decode prog_10_method_21_code 78 = .ok (.iconst 0, 1)) ∧ (decode prog_10_method_21_code 79 = .ok (.bipush 6, 2)) ∧ (decode prog_10_method_21_code 81 = .ok (.invokevirtual 155, 3)) ∧ (decode prog_10_method_21_code 84 = .ok (.aload_n 0, 1)) ∧ (decode prog_10_method_21_code 85 = .ok (.iconst 0, 1)) ∧ (decode prog_10_method_21_code 86 = .ok (.putfield 118, 3)) ∧ (decode prog_10_method_21_code 89 = .ok (.aload_n 0, 1)) ∧ (decode prog_10_method_21_code 90 = .ok (.getfield 121, 3)) ∧ (decode prog_10_method_21_code 93 = .ok (.ifCond .le 11, 3)) ∧ (decode prog_10_method_21_code 96 = .ok (.bipush (-10), 2)) := by
  have h : List.drop 48 prog_10_method_21_code.data.toList = 0x9a :: _ := rfl
  refine ⟨zq_k_s2 154 (fun z => .ifCond .ne z) 36 h rfl (zq_o_154 _) (by decide +kernel), ?_⟩
  replace h := zq_nx3 (q := 51) h rfl
  refine ⟨zq_k_n 42 h rfl (zq_o_42 _), ?_⟩
  replace h := zq_nx1 (q := 52) h rfl
  refine ⟨zq_k_n 42 h rfl (zq_o_42 _), ?_⟩
  replace h := zq_nx1 (q := 53) h rfl
  refine ⟨zq_k_u2 180 (fun z => .getfield z) 100 h rfl (zq_o_180 _) (by decide +kernel), ?_⟩
  replace h := zq_nx3 (q := 56) h rfl
  refine ⟨zq_k_n 42 h rfl (zq_o_42 _), ?_⟩
  replace h := zq_nx1 (q := 57) h rfl
  refine ⟨zq_k_u2 180 (fun z => .getfield z) 93 h rfl (zq_o_180 _) (by decide +kernel), ?_⟩
  replace h := zq_nx3 (q := 60) h rfl
  refine ⟨zq_k_s2 162 (fun z => .if_icmp .ge z) 18 h rfl (zq_o_162 _) (by decide +kernel), ?_⟩
  replace h := zq_nx3 (q := 63) h rfl
  refine ⟨zq_k_n 42 h rfl (zq_o_42 _), ?_⟩
  replace h := zq_nx1 (q := 64) h rfl
  refine ⟨zq_k_u2 180 (fun z => .getfield z) 103 h rfl (zq_o_180 _) (by decide +kernel), ?_⟩
  replace h := zq_nx3 (q := 67) h rfl
  refine ⟨zq_k_n 42 h rfl (zq_o_42 _), ?_⟩
  replace h := zq_nx1 (q := 68) h rfl
  refine ⟨zq_k_u2 180 (fun z => .getfield z) 97 h rfl (zq_o_180 _) (by decide +kernel), ?_⟩
  replace h := zq_nx3 (q := 71) h rfl
  refine ⟨zq_k_s2 162 (fun z => .if_icmp .ge z) 7 h rfl (zq_o_162 _) (by decide +kernel), ?_⟩
  replace h := zq_nx3 (q := 74) h rfl
  refine ⟨zq_k_n 4 h rfl (zq_o_4 _), ?_⟩
  replace h := zq_nx1 (q := 75) h rfl
  refine ⟨zq_k_s2 167 (fun z => .goto z) 4 h rfl (zq_o_167 _) (by decide +kernel), ?_⟩
  replace h := zq_nx3 (q := 78) h rfl
  refine ⟨zq_k_n 3 h rfl (zq_o_3 _), ?_⟩
  replace h := zq_nx1 (q := 79) h rfl
  refine ⟨zq_k_s1 16 (fun z => .bipush z) 6 h rfl (zq_o_16 _) (by decide +kernel), ?_⟩
  replace h := zq_nx2 (q := 81) h rfl
  refine ⟨zq_k_u2 182 (fun z => .invokevirtual z) 155 h rfl (zq_o_182 _) (by decide +kernel), ?_⟩
  replace h := zq_nx3 (q := 84) h rfl
  refine ⟨zq_k_n 42 h rfl (zq_o_42 _), ?_⟩
  replace h := zq_nx1 (q := 85) h rfl
  refine ⟨zq_k_n 3 h rfl (zq_o_3 _), ?_⟩
  replace h := zq_nx1 (q := 86) h rfl
  refine ⟨zq_k_u2 181 (fun z => .putfield z) 118 h rfl (zq_o_181 _) (by decide +kernel), ?_⟩
  replace h := zq_nx3 (q := 89) h rfl
  refine ⟨zq_k_n 42 h rfl (zq_o_42 _), ?_⟩
  replace h := zq_nx1 (q := 90) h rfl
  refine ⟨zq_k_u2 180 (fun z => .getfield z) 121 h rfl (zq_o_180 _) (by decide +kernel), ?_⟩
  replace h := zq_nx3 (q := 93) h rfl
  refine ⟨zq_k_s2 158 (fun z => .ifCond .le z) 11 h rfl (zq_o_158 _) (by decide +kernel), ?_⟩
  replace h := zq_nx3 (q := 96) h rfl
  exact zq_k_s1 16 (fun z => .bipush z) (-10) h rfl (zq_o_16 _) (by decide +kernel)
theorem d_M_text_48 : decode prog_10_method_21_code 48 = .ok (.ifCond .ne 36, 3) := dd_M_text_48.1
theorem d_M_text_51 : decode prog_10_method_21_code 51 = .ok (.aload_n 0, 1) := dd_M_text_48.2.1
theorem d_M_text_52 : decode prog_10_method_21_code 52 = .ok (.aload_n 0, 1) := dd_M_text_48.2.2.1
theorem d_M_text_53 : decode prog_10_method_21_code 53 = .ok (.getfield 100, 3) := dd_M_text_48.2.2.2.1
theorem d_M_text_56 : decode prog_10_method_21_code 56 = .ok (.aload_n 0, 1) := dd_M_text_48.2.2.2.2.1
theorem d_M_text_57 : decode prog_10_method_21_code 57 = .ok (.getfield 93, 3) := dd_M_text_48.2.2.2.2.2.1
theorem d_M_text_60 : decode prog_10_method_21_code 60 = .ok (.if_icmp .ge 18, 3) := dd_M_text_48.2.2.2.2.2.2.1
theorem d_M_text_63 : decode prog_10_method_21_code 63 = .ok (.aload_n 0, 1) := dd_M_text_48.2.2.2.2.2.2.2.1
theorem d_M_text_64 : decode prog_10_method_21_code 64 = .ok (.getfield 103, 3) := dd_M_text_48.2.2.2.2.2.2.2.2.1
theorem d_M_text_67 : decode prog_10_method_21_code 67 = .ok (.aload_n 0, 1) := dd_M_text_48.2.2.2.2.2.2.2.2.2.1
theorem d_M_text_68 : decode prog_10_method_21_code 68 = .ok (.getfield 97, 3) := dd_M_text_48.2.2.2.2.2.2.2.2.2.2.1
theorem d_M_text_71 : decode prog_10_method_21_code 71 = .ok (.if_icmp .ge 7, 3) := dd_M_text_48.2.2.2.2.2.2.2.2.2.2.2.1
theorem d_M_text_74 : decode prog_10_method_21_code 74 = .ok (.iconst 1, 1) := dd_M_text_48.2.2.2.2.2.2.2.2.2.2.2.2.1
theorem d_M_text_75 : decode prog_10_method_21_code 75 = .ok (.goto 4, 3) := dd_M_text_48.2.2.2.2.2.2.2.2.2.2.2.2.2.1
theorem d_M_text_78 : decode prog_10_method_21_code 78 = .ok (.iconst 0, 1) := dd_M_text_48.2.2.2.2.2.2.2.2.2.2.2.2.2.2.1
theorem d_M_text_79 : decode prog_10_method_21_code 79 = .ok (.bipush 6, 2) := dd_M_text_48.2.2.2.2.2.2.2.2.2.2.2.2.2.2.2.1
theorem d_M_text_81 : decode prog_10_method_21_code 81 = .ok (.invokevirtual 155, 3) := dd_M_text_48.2.2.2.2.2.2.2.2.2.2.2.2.2.2.2.2.1
theorem d_M_text_84 : decode prog_10_method_21_code 84 = .ok (.aload_n 0, 1) := dd_M_text_48.2.2.2.2.2.2.2.2.2.2.2.2.2.2.2.2.2.1
theorem d_M_text_85 : decode prog_10_method_21_code 85 = .ok (.iconst 0, 1) := dd_M_text_48.2.2.2.2.2.2.2.2.2.2.2.2.2.2.2.2.2.2.1
theorem d_M_text_86 : decode prog_10_method_21_code 86 = .ok (.putfield 118, 3) := dd_M_text_48.2.2.2.2.2.2.2.2.2.2.2.2.2.2.2.2.2.2.2.1
theorem d_M_text_89 : decode prog_10_method_21_code 89 = .ok (.aload_n 0, 1) := dd_M_text_48.2.2.2.2.2.2.2.2.2.2.2.2.2.2.2.2.2.2.2.2.1
theorem d_M_text_90 : decode prog_10_method_21_code 90 = .ok (.getfield 121, 3) := dd_M_text_48.2.2.2.2.2.2.2.2.2.2.2.2.2.2.2.2.2.2.2.2.2.1
theorem d_M_text_93 : decode prog_10_method_21_code 93 = .ok (.ifCond .le 11, 3) := dd_M_text_48.2.2.2.2.2.2.2.2.2.2.2.2.2.2.2.2.2.2.2.2.2.2.1
theorem d_M_text_96 : decode prog_10_method_21_code 96 = .ok (.bipush (-10), 2) := dd_M_text_48.2.2.2.2.2.2.2.2.2.2.2.2.2.2.2.2.2.2.2.2.2.2.2
set_option maxRecDepth 100000 in
theorem dd_M_text_98 : (decode prog_10_method_21_code 98 = .ok (.aload_n 0, 1)) ∧ (decode prog_10_method_21_code 99 = .ok (.getfield 127, 3)) ∧ (decode prog_10_method_21_code 102 = .ok (.isub, 1)) ∧ (decode prog_10_method_21_code 103 = .ok (.ireturn, 1)) ∧ (decode prog_10_method_21_code 104 = .ok (.aload_n 0, 1)) ∧ (decode prog_10_method_21_code 105 = .ok (.invokevirtual 90, 3)) ∧ (decode prog_10_method_21_code 108 = .ok (.iload_n 1, 1)) ∧ (decode prog_10_method_21_code 109 = .ok (.ireturn, 1)) := by
  have h : List.drop 98 prog_10_method_21_code.data.toList = 0x2a :: _ := rfl
  refine ⟨zq_k_n 42 h rfl (zq_o_42 _), ?_⟩
  replace h := zq_nx1 (q := 99) h rfl
  refine ⟨zq_k_u2 180 (fun z => .getfield z) 127 h rfl (zq_o_180 _) (by decide +kernel), ?_⟩
  replace h := zq_nx3 (q := 102) h rfl
  refine ⟨zq_k_n 100 h rfl (zq_o_100 _), ?_⟩
  replace h := zq_nx1 (q := 103) h rfl
  refine ⟨zq_k_n 172 h rfl (zq_o_172 _), ?_⟩
  replace h := zq_nx1 (q := 104) h rfl
  refine ⟨zq_k_n 42 h rfl (zq_o_42 _), ?_⟩
  replace h := zq_nx1 (q := 105) h rfl
  refine ⟨zq_k_u2 182 (fun z => .invokevirtual z) 90 h rfl (zq_o_182 _) (by decide +kernel), ?_⟩
  replace h := zq_nx3 (q := 108) h rfl
  refine ⟨zq_k_n 27 h rfl (zq_o_27 _), ?_⟩
  replace h := zq_nx1 (q := 109) h rfl
  exact zq_k_n 172 h rfl (zq_o_172 _)
theorem d_M_text_98 : decode prog_10_method_21_code 98 = .ok (.aload_n 0, 1) := dd_M_text_98.1
theorem d_M_text_99 : decode prog_10_method_21_code 99 = .ok (.getfield 127, 3) := dd_M_text_98.2.1
theorem d_M_text_102 : decode prog_10_method_21_code 102 = .ok (.isub, 1) := dd_M_text_98.2.2.1
theorem d_M_text_103 : decode prog_10_method_21_code 103 = .ok (.ireturn, 1) := dd_M_text_98.2.2.2.1
theorem d_M_text_104 : decode prog_10_method_21_code 104 = .ok (.aload_n 0, 1) := dd_M_text_98.2.2.2.2.1
theorem d_M_text_105 : decode prog_10_method_21_code 105 = .ok (.invokevirtual 90, 3) := dd_M_text_98.2.2.2.2.2.1
theorem d_M_text_108 : decode prog_10_method_21_code 108 = .ok (.iload_n 1, 1) := dd_M_text_98.2.2.2.2.2.2.1
theorem d_M_text_109 : decode prog_10_method_21_code 109 = .ok (.ireturn, 1) := dd_M_text_98.2.2.2.2.2.2.2
def f_M_text_84  (b0 : Nat) (b1 : Int32) (h : mH) : Option (Int32 × mH) :=
  bd1 (pV h b0 8 20 (.int (0 : Int32))) fun h40 =>
  bd1 (gI h40 b0 8 25) fun x42 =>
  if x42 ≤ 0 then
    bd1 (kC h40 b0 8) fun _ =>
    bd1 (f_M_keepDraft b0 h40) fun h46 =>
    some (b1, h46)
  else
    bd1 (gI h40 b0 8 26) fun x48 =>
    some (((-10) : Int32) - x48, h40)
set_option maxRecDepth 20000 in
theorem t_M_text_84 {sc : Nat × (Nat → Int32)}  (b0 : Nat) (b1 : Int32) (h : mH) (r : Int32) (h' : mH) (hf : f_M_text_84  b0 b1 h = some (r, h')) : G sc y_M_text prog_10_method_21_code 2 (some .int) 6 136 84 [(0, .ref b0), (1, .int b1)] [] h (some (.int r)) h' := by
  unfold f_M_text_84 at hf
  refine g_aload_n (pc := 84) 0 d_M_text_84 rfl rfl ?_
  refine g_iconst (pc := 85) (0 : Int32) d_M_text_85 (by decide) ?_
  obtain ⟨h40, e41, hf⟩ := bd1_e hf
  refine g_put (pc := 86) (ci := 8) (kk := 20) ty_M tyok_M nm_M d_M_text_86 rfl in_M (by decide) wd_958 rfl (fun _ => rfl) (fun _ => rfl) (fun _ z => by cases z) e41 ?_
  refine g_aload_n (pc := 89) 0 d_M_text_89 rfl rfl ?_
  obtain ⟨x42, e43, hf⟩ := bd1_e hf
  refine g_get (pc := 90) (ci := 8) (kk := 25) d_M_text_90 rfl in_M (by decide) wd_963 (gI_spec e43) ?_
  refine g_ifle (pc := 93) 104 d_M_text_93 (by decide) (fun c50 => ?_) (fun c50 => ?_)
  · replace hf := (if_pos c50).symm.trans hf
    refine g_aload_n (pc := 104) 0 d_M_text_104 rfl rfl ?_
    obtain ⟨u45, e44, hf⟩ := bd1_e hf
    obtain ⟨h46, e47, hf⟩ := bd1_e hf
    refine g_callV (pc := 105) (ci := 8) [] (site_of si_M_keepDraft (by decide) (by decide)) wd_934 wd_936 wp_31 d_M_text_105 rfl e44 (Nat.le_of_ble_eq_true rfl) (fun z => absurd z (by decide)) (fun z => absurd z (by decide)) (fun z => absurd z (by decide)) (c_M_keepDraft e47) rfl ?_
    refine g_st [] rfl ?_
    refine g_iload_n (pc := 108) 1 d_M_text_108 rfl rfl ?_
    obtain ⟨rfl, rfl⟩ := ret2 hf
    exact g_iret (pc := 109) rfl d_M_text_109
  · replace hf := (if_neg c50).symm.trans hf
    refine g_bipush (pc := 96) ((-10) : Int32) d_M_text_96 (by decide) ?_
    refine g_aload_n (pc := 98) 0 d_M_text_98 rfl rfl ?_
    obtain ⟨x48, e49, hf⟩ := bd1_e hf
    refine g_get (pc := 99) (ci := 8) (kk := 26) d_M_text_99 rfl in_M (by decide) wd_964 (gI_spec e49) ?_
    refine g_isub (pc := 102) d_M_text_102 ?_
    obtain ⟨rfl, rfl⟩ := ret2 hf
    exact g_iret (pc := 103) rfl d_M_text_103
def f_M_text_79  (b0 : Nat) (b1 : Int32) (s0 : Nat) (s1 : Int32) (h : mH) : Option (Int32 × mH) :=
  bd1 (kC h s0 8) fun _ =>
  bd1 (f_M_needs s0 s1 (6 : Int32) h) fun h38 =>
  f_M_text_84  b0 b1 h38
set_option maxRecDepth 20000 in
theorem t_M_text_79 {sc : Nat × (Nat → Int32)}  (b0 : Nat) (b1 : Int32) (s0 : Nat) (s1 : Int32) (h : mH) (r : Int32) (h' : mH) (hf : f_M_text_79  b0 b1 s0 s1 h = some (r, h')) : G sc y_M_text prog_10_method_21_code 2 (some .int) 6 136 79 [(0, .ref b0), (1, .int b1)] [.int s1, .ref s0] h (some (.int r)) h' := by
  unfold f_M_text_79 at hf
  refine g_bipush (pc := 79) (6 : Int32) d_M_text_79 (by decide) ?_
  obtain ⟨u37, e36, hf⟩ := bd1_e hf
  obtain ⟨h38, e39, hf⟩ := bd1_e hf
  refine g_callV (pc := 81) (ci := 8) [.int s1, .int (6 : Int32)] (site_of si_M_needs (by decide) (by decide)) wd_1084 wd_1086 wp_34 d_M_text_81 rfl e36 (Nat.le_of_ble_eq_true rfl) (fun z => absurd z (by decide)) (fun z => absurd z (by decide)) (fun z => absurd z (by decide)) (c_M_needs e39) rfl ?_
  refine g_st [] rfl ?_
  refine g_lv [0, 1] rfl ?_
  exact t_M_text_84  _ _ _ _ _  hf
def f_M_text_78  (b0 : Nat) (b1 : Int32) (s0 : Nat) (h : mH) : Option (Int32 × mH) :=
  f_M_text_79  b0 b1 s0 (0 : Int32) h
set_option maxRecDepth 20000 in
theorem t_M_text_78 {sc : Nat × (Nat → Int32)}  (b0 : Nat) (b1 : Int32) (s0 : Nat) (h : mH) (r : Int32) (h' : mH) (hf : f_M_text_78  b0 b1 s0 h = some (r, h')) : G sc y_M_text prog_10_method_21_code 2 (some .int) 6 136 78 [(0, .ref b0), (1, .int b1)] [.ref s0] h (some (.int r)) h' := by
  unfold f_M_text_78 at hf
  refine g_iconst (pc := 78) (0 : Int32) d_M_text_78 (by decide) ?_
  refine g_lv [0, 1] rfl ?_
  exact t_M_text_79  _ _ _ _ _ _ _  hf
def f_M_text_44  (b0 : Nat) (b1 : Int32) (h : mH) : Option (Int32 × mH) :=
  bd1 (gI h b0 8 25) fun x23 =>
  if x23 = 0 then
    bd1 (gI h b0 8 17) fun x25 =>
    bd1 (gI h b0 8 10) fun x27 =>
    if x27 ≤ x25 then
      f_M_text_78  b0 b1 b0 h
    else
      bd1 (gI h b0 8 18) fun x29 =>
      bd1 (gI h b0 8 11) fun x31 =>
      if x31 ≤ x29 then
        f_M_text_78  b0 b1 b0 h
      else
        f_M_text_79  b0 b1 b0 (1 : Int32) h
  else
    f_M_text_84  b0 b1 h
set_option maxRecDepth 20000 in
theorem t_M_text_44 {sc : Nat × (Nat → Int32)}  (b0 : Nat) (b1 : Int32) (h : mH) (r : Int32) (h' : mH) (hf : f_M_text_44  b0 b1 h = some (r, h')) : G sc y_M_text prog_10_method_21_code 2 (some .int) 6 136 44 [(0, .ref b0), (1, .int b1)] [] h (some (.int r)) h' := by
  unfold f_M_text_44 at hf
  refine g_aload_n (pc := 44) 0 d_M_text_44 rfl rfl ?_
  obtain ⟨x23, e24, hf⟩ := bd1_e hf
  refine g_get (pc := 45) (ci := 8) (kk := 25) d_M_text_45 rfl in_M (by decide) wd_963 (gI_spec e24) ?_
  refine g_ifne (pc := 48) 84 d_M_text_48 (by decide) (fun c35 => ?_) (fun c35 => ?_)
  · replace hf := (if_neg c35).symm.trans hf
    refine g_lv [0, 1] rfl ?_
    exact t_M_text_84  _ _ _ _ _  hf
  · replace hf := (if_pos c35).symm.trans hf
    refine g_aload_n (pc := 51) 0 d_M_text_51 rfl rfl ?_
    refine g_aload_n (pc := 52) 0 d_M_text_52 rfl rfl ?_
    obtain ⟨x25, e26, hf⟩ := bd1_e hf
    refine g_get (pc := 53) (ci := 8) (kk := 17) d_M_text_53 rfl in_M (by decide) wd_955 (gI_spec e26) ?_
    refine g_aload_n (pc := 56) 0 d_M_text_56 rfl rfl ?_
    obtain ⟨x27, e28, hf⟩ := bd1_e hf
    refine g_get (pc := 57) (ci := 8) (kk := 10) d_M_text_57 rfl in_M (by decide) wd_948 (gI_spec e28) ?_
    refine g_icmpge (pc := 60) 78 d_M_text_60 (by decide) (fun c34 => ?_) (fun c34 => ?_)
    · replace hf := (if_pos c34).symm.trans hf
      refine g_lv [0, 1] rfl ?_
      exact t_M_text_78  _ _ _ _ _ _  hf
    · replace hf := (if_neg c34).symm.trans hf
      refine g_aload_n (pc := 63) 0 d_M_text_63 rfl rfl ?_
      obtain ⟨x29, e30, hf⟩ := bd1_e hf
      refine g_get (pc := 64) (ci := 8) (kk := 18) d_M_text_64 rfl in_M (by decide) wd_956 (gI_spec e30) ?_
      refine g_aload_n (pc := 67) 0 d_M_text_67 rfl rfl ?_
      obtain ⟨x31, e32, hf⟩ := bd1_e hf
      refine g_get (pc := 68) (ci := 8) (kk := 11) d_M_text_68 rfl in_M (by decide) wd_949 (gI_spec e32) ?_
      refine g_icmpge (pc := 71) 78 d_M_text_71 (by decide) (fun c33 => ?_) (fun c33 => ?_)
      · replace hf := (if_pos c33).symm.trans hf
        refine g_lv [0, 1] rfl ?_
        exact t_M_text_78  _ _ _ _ _ _  hf
      · replace hf := (if_neg c33).symm.trans hf
        refine g_iconst (pc := 74) (1 : Int32) d_M_text_74 (by decide) ?_
        refine g_goto (pc := 75) 79 d_M_text_75 (by decide) ?_
        refine g_lv [0, 1] rfl ?_
        exact t_M_text_79  _ _ _ _ _ _ _  hf
def f_M_text_20b (rec20 : Nat → Int32 → mH → Option (Int32 × mH)) (b0 : Nat) (b1 : Int32) (h : mH) : Option (Int32 × mH) :=
  bd1 (gI h b0 8 25) fun x13 =>
  if x13 = 0 then
    bd1 (gI h b0 8 23) fun x15 =>
    if x15 = 0 then
      f_M_text_44  b0 b1 h
    else
      bd1 (kC h b0 8) fun _ =>
      bd1 (f_M_readLine b0 h) fun h19 =>
      rec20 b0 (b1 + (1 : Int32)) h19
  else
    f_M_text_44  b0 b1 h
set_option maxRecDepth 20000 in
theorem t_M_text_20b {sc : Nat × (Nat → Int32)} (rec20 : Nat → Int32 → mH → Option (Int32 × mH)) (hrec20 : ∀ (b0 : Nat) (b1 : Int32) (h : mH) (r : Int32) (h' : mH), rec20 b0 b1 h = some (r, h') → G sc y_M_text prog_10_method_21_code 2 (some .int) 6 136 20 [(0, .ref b0), (1, .int b1)] [] h (some (.int r)) h') (b0 : Nat) (b1 : Int32) (h : mH) (r : Int32) (h' : mH) (hf : f_M_text_20b rec20 b0 b1 h = some (r, h')) : G sc y_M_text prog_10_method_21_code 2 (some .int) 6 136 20 [(0, .ref b0), (1, .int b1)] [] h (some (.int r)) h' := by
  unfold f_M_text_20b at hf
  refine g_aload_n (pc := 20) 0 d_M_text_20 rfl rfl ?_
  obtain ⟨x13, e14, hf⟩ := bd1_e hf
  refine g_get (pc := 21) (ci := 8) (kk := 25) d_M_text_21 rfl in_M (by decide) wd_963 (gI_spec e14) ?_
  refine g_ifne (pc := 24) 44 d_M_text_24 (by decide) (fun c22 => ?_) (fun c22 => ?_)
  · replace hf := (if_neg c22).symm.trans hf
    refine g_lv [0, 1] rfl ?_
    exact t_M_text_44  _ _ _ _ _  hf
  · replace hf := (if_pos c22).symm.trans hf
    refine g_aload_n (pc := 27) 0 d_M_text_27 rfl rfl ?_
    obtain ⟨x15, e16, hf⟩ := bd1_e hf
    refine g_get (pc := 28) (ci := 8) (kk := 23) d_M_text_28 rfl in_M (by decide) wd_961 (gI_spec e16) ?_
    refine g_ifeq (pc := 31) 44 d_M_text_31 (by decide) (fun c21 => ?_) (fun c21 => ?_)
    · replace hf := (if_pos c21).symm.trans hf
      refine g_lv [0, 1] rfl ?_
      exact t_M_text_44  _ _ _ _ _  hf
    · replace hf := (if_neg c21).symm.trans hf
      refine g_aload_n (pc := 34) 0 d_M_text_34 rfl rfl ?_
      obtain ⟨u18, e17, hf⟩ := bd1_e hf
      obtain ⟨h19, e20, hf⟩ := bd1_e hf
      refine g_callV (pc := 35) (ci := 8) [] (site_of si_M_readLine (by decide) (by decide)) wd_1088 wd_1090 wp_35 d_M_text_35 rfl e17 (Nat.le_of_ble_eq_true rfl) (fun z => absurd z (by decide)) (fun z => absurd z (by decide)) (fun z => absurd z (by decide)) (c_M_readLine e20) rfl ?_
      refine g_st [] rfl ?_
      refine g_iinc (pc := 38) 1 (b1 + (1 : Int32)) [(1, .int (b1 + (1 : Int32))), (0, .ref b0)] d_M_text_38 rfl rfl (Nat.le_of_ble_eq_true rfl) rfl ?_
      refine g_goto (pc := 41) 20 d_M_text_41 (by decide) ?_
      refine g_lv [1, 0] rfl ?_
      exact hrec20 _ _ _ _ _  hf
def f_M_text_20  : Nat → Nat → Int32 → mH → Option (Int32 × mH)
  | 0 => fun _ _ _ => none
  | n + 1 => f_M_text_20b  (f_M_text_20  n)
theorem t_M_text_20 {sc : Nat × (Nat → Int32)}  : ∀ (n : Nat) (b0 : Nat) (b1 : Int32) (h : mH) (r : Int32) (h' : mH) (hf : f_M_text_20  n b0 b1 h = some (r, h')), G sc y_M_text prog_10_method_21_code 2 (some .int) 6 136 20 [(0, .ref b0), (1, .int b1)] [] h (some (.int r)) h'
  | 0, _, _, _, _, _, hf => by cases hf
  | n + 1, _, _, _, _, _, hf => t_M_text_20b  (f_M_text_20  n) (t_M_text_20  n) _ _ _ _ _ hf
def f_M_text_0  (a0 : Nat) (h : mH) : Option (Int32 × mH) :=
  bd1 (pV h a0 8 25 (.int (0 : Int32))) fun h1 =>
  bd1 (pV h1 a0 8 21 (.int (0 : Int32))) fun h3 =>
  bd1 (kC h3 a0 8) fun _ =>
  bd1 (f_M_firstDraft a0 h3) fun h7 =>
  bd1 (kC h7 a0 8) fun _ =>
  bd1 (f_M_next a0 h7) fun h11 =>
  f_M_text_20  FU a0 (0 : Int32) h11
set_option maxRecDepth 20000 in
theorem t_M_text_0 {sc : Nat × (Nat → Int32)}  (a0 : Nat) (h : mH) (r : Int32) (h' : mH) (hf : f_M_text_0  a0 h = some (r, h')) : G sc y_M_text prog_10_method_21_code 2 (some .int) 6 136 0 [(0, .ref a0)] [] h (some (.int r)) h' := by
  unfold f_M_text_0 at hf
  refine g_iconst (pc := 0) (0 : Int32) d_M_text_0 (by decide) ?_
  refine g_istore_n (pc := 1) [(1, .int (0 : Int32)), (0, .ref a0)] d_M_text_1 rfl (Nat.le_of_ble_eq_true rfl) rfl ?_
  refine g_aload_n (pc := 2) 1 d_M_text_2 rfl rfl ?_
  refine g_iconst (pc := 3) (0 : Int32) d_M_text_3 (by decide) ?_
  obtain ⟨h1, e2, hf⟩ := bd1_e hf
  refine g_put (pc := 4) (ci := 8) (kk := 25) ty_M tyok_M nm_M d_M_text_4 rfl in_M (by decide) wd_963 rfl (fun _ => rfl) (fun _ => rfl) (fun _ z => by cases z) e2 ?_
  refine g_aload_n (pc := 7) 1 d_M_text_7 rfl rfl ?_
  refine g_iconst (pc := 8) (0 : Int32) d_M_text_8 (by decide) ?_
  obtain ⟨h3, e4, hf⟩ := bd1_e hf
  refine g_put (pc := 9) (ci := 8) (kk := 21) ty_M tyok_M nm_M d_M_text_9 rfl in_M (by decide) wd_959 rfl (fun _ => rfl) (fun _ => rfl) (fun _ z => by cases z) e4 ?_
  refine g_aload_n (pc := 12) 1 d_M_text_12 rfl rfl ?_
  obtain ⟨u6, e5, hf⟩ := bd1_e hf
  obtain ⟨h7, e8, hf⟩ := bd1_e hf
  refine g_callV (pc := 13) (ci := 8) [] (site_of si_M_firstDraft (by decide) (by decide)) wd_930 wd_932 wp_30 d_M_text_13 rfl e5 (Nat.le_of_ble_eq_true rfl) (fun z => absurd z (by decide)) (fun z => absurd z (by decide)) (fun z => absurd z (by decide)) (c_M_firstDraft e8) rfl ?_
  refine g_st [] rfl ?_
  refine g_aload_n (pc := 16) 1 d_M_text_16 rfl rfl ?_
  obtain ⟨u10, e9, hf⟩ := bd1_e hf
  obtain ⟨h11, e12, hf⟩ := bd1_e hf
  refine g_callV (pc := 17) (ci := 8) [] (site_of si_M_next (by decide) (by decide)) wd_1072 wd_1074 wp_32 d_M_text_17 rfl e9 (Nat.le_of_ble_eq_true rfl) (fun z => absurd z (by decide)) (fun z => absurd z (by decide)) (fun z => absurd z (by decide)) (c_M_next e12) rfl ?_
  refine g_st [] rfl ?_
  refine g_lv [1, 0] rfl ?_
  exact t_M_text_20  FU _ _ _ _ _  hf
def f_M_text (a0 : Nat) (h : mH) : Option (Int32 × mH) := f_M_text_0 a0 h
theorem c_M_text {sc : Nat × (Nat → Int32)} {a0 : Nat} {h : mH} {r : Int32} {h' : mH} (hf : f_M_text a0 h = some (r, h')) : MM sc y_M_text prog_10_method_21_code 2 (some .int) 6 136 [.ref a0] h (some (.int r)) h' :=
  mm_of_G (by decide) (Nat.le_of_ble_eq_true rfl) (t_M_text_0 _ _ _ _ hf)
/-! M fault ()I -/
set_option maxRecDepth 100000 in
theorem dd_M_fault_0 : (decode prog_10_method_22_code 0 = .ok (.aload_n 0, 1)) ∧ (decode prog_10_method_22_code 1 = .ok (.getfield 121, 3)) ∧ (decode prog_10_method_22_code 4 = .ok (.ireturn, 1)) := by
  have h : List.drop 0 prog_10_method_22_code.data.toList = 0x2a :: _ := rfl
  refine ⟨zq_k_n 42 h rfl (zq_o_42 _), ?_⟩
  replace h := zq_nx1 (q := 1) h rfl
  refine ⟨zq_k_u2 180 (fun z => .getfield z) 121 h rfl (zq_o_180 _) (by decide +kernel), ?_⟩
  replace h := zq_nx3 (q := 4) h rfl
  exact zq_k_n 172 h rfl (zq_o_172 _)
theorem d_M_fault_0 : decode prog_10_method_22_code 0 = .ok (.aload_n 0, 1) := dd_M_fault_0.1
theorem d_M_fault_1 : decode prog_10_method_22_code 1 = .ok (.getfield 121, 3) := dd_M_fault_0.2.1
theorem d_M_fault_4 : decode prog_10_method_22_code 4 = .ok (.ireturn, 1) := dd_M_fault_0.2.2
def f_M_fault_0  (a0 : Nat) (h : mH) : Option (Int32 × mH) :=
  bd1 (gI h a0 8 25) fun x1 =>
  some (x1, h)
set_option maxRecDepth 20000 in
theorem t_M_fault_0 {sc : Nat × (Nat → Int32)}  (a0 : Nat) (h : mH) (r : Int32) (h' : mH) (hf : f_M_fault_0  a0 h = some (r, h')) : G sc y_M_fault prog_10_method_22_code 1 (some .int) 0 0 0 [(0, .ref a0)] [] h (some (.int r)) h' := by
  unfold f_M_fault_0 at hf
  refine g_aload_n (pc := 0) 0 d_M_fault_0 rfl rfl ?_
  obtain ⟨x1, e2, hf⟩ := bd1_e hf
  refine g_get (pc := 1) (ci := 8) (kk := 25) d_M_fault_1 rfl in_M (by decide) wd_963 (gI_spec e2) ?_
  obtain ⟨rfl, rfl⟩ := ret2 hf
  exact g_iret (pc := 4) rfl d_M_fault_4
def f_M_fault (a0 : Nat) (h : mH) : Option (Int32 × mH) := f_M_fault_0 a0 h
theorem c_M_fault {sc : Nat × (Nat → Int32)} {a0 : Nat} {h : mH} {r : Int32} {h' : mH} (hf : f_M_fault a0 h = some (r, h')) : MM sc y_M_fault prog_10_method_22_code 1 (some .int) 0 0 [.ref a0] h (some (.int r)) h' :=
  mm_of_G (by decide) (Nat.le_of_ble_eq_true rfl) (t_M_fault_0 _ _ _ _ hf)
/-! M rule (I)I -/
set_option maxRecDepth 100000 in
theorem dd_M_rule_0 : (decode prog_10_method_35_code 0 = .ok (.iload_n 1, 1)) ∧ (decode prog_10_method_35_code 1 = .ok (.tableswitch 81 0 5 #[39, 44, 49, 57, 65, 73], 39)) ∧ (decode prog_10_method_35_code 40 = .ok (.aload_n 0, 1)) ∧ (decode prog_10_method_35_code 41 = .ok (.getfield 106, 3)) ∧ (decode prog_10_method_35_code 44 = .ok (.ireturn, 1)) ∧ (decode prog_10_method_35_code 45 = .ok (.aload_n 0, 1)) ∧ (decode prog_10_method_35_code 46 = .ok (.getfield 109, 3)) ∧ (decode prog_10_method_35_code 49 = .ok (.ireturn, 1)) ∧ (decode prog_10_method_35_code 50 = .ok (.aload_n 0, 1)) ∧ (decode prog_10_method_35_code 51 = .ok (.getfield 7, 3)) ∧ (decode prog_10_method_35_code 54 = .ok (.bipush 39, 2)) ∧ (decode prog_10_method_35_code 56 = .ok (.iaload, 1)) ∧ (decode prog_10_method_35_code 57 = .ok (.ireturn, 1)) ∧ (decode prog_10_method_35_code 58 = .ok (.aload_n 0, 1)) ∧ (decode prog_10_method_35_code 59 = .ok (.getfield 7, 3)) ∧ (decode prog_10_method_35_code 62 = .ok (.bipush 40, 2)) ∧ (decode prog_10_method_35_code 64 = .ok (.iaload, 1)) ∧ (decode prog_10_method_35_code 65 = .ok (.ireturn, 1)) ∧ (decode prog_10_method_35_code 66 = .ok (.aload_n 0, 1)) ∧ (decode prog_10_method_35_code 67 = .ok (.getfield 7, 3)) ∧ (decode prog_10_method_35_code 70 = .ok (.bipush 10, 2)) ∧ (decode prog_10_method_35_code 72 = .ok (.iaload, 1)) ∧ (decode prog_10_method_35_code 73 = .ok (.ireturn, 1)) ∧ (decode prog_10_method_35_code 74 = .ok (.aload_n 0, 1)) := by
  have h : List.drop 0 prog_10_method_35_code.data.toList = 0x1b :: _ := rfl
  refine ⟨zq_k_n 27 h rfl (zq_o_27 _), ?_⟩
  replace h := zq_nx1 (q := 1) h rfl
  refine ⟨by decide +kernel, ?_⟩
  have h : List.drop 40 prog_10_method_35_code.data.toList = 0x2a :: _ := rfl
  refine ⟨zq_k_n 42 h rfl (zq_o_42 _), ?_⟩
  replace h := zq_nx1 (q := 41) h rfl
  refine ⟨zq_k_u2 180 (fun z => .getfield z) 106 h rfl (zq_o_180 _) (by decide +kernel), ?_⟩
  replace h := zq_nx3 (q := 44) h rfl
  refine ⟨zq_k_n 172 h rfl (zq_o_172 _), ?_⟩
  replace h := zq_nx1 (q := 45) h rfl
  refine ⟨zq_k_n 42 h rfl (zq_o_42 _), ?_⟩
  replace h := zq_nx1 (q := 46) h rfl
  refine ⟨zq_k_u2 180 (fun z => .getfield z) 109 h rfl (zq_o_180 _) (by decide +kernel), ?_⟩
  replace h := zq_nx3 (q := 49) h rfl
  refine ⟨zq_k_n 172 h rfl (zq_o_172 _), ?_⟩
  replace h := zq_nx1 (q := 50) h rfl
  refine ⟨zq_k_n 42 h rfl (zq_o_42 _), ?_⟩
  replace h := zq_nx1 (q := 51) h rfl
  refine ⟨zq_k_u2 180 (fun z => .getfield z) 7 h rfl (zq_o_180 _) (by decide +kernel), ?_⟩
  replace h := zq_nx3 (q := 54) h rfl
  refine ⟨zq_k_s1 16 (fun z => .bipush z) 39 h rfl (zq_o_16 _) (by decide +kernel), ?_⟩
  replace h := zq_nx2 (q := 56) h rfl
  refine ⟨zq_k_n 46 h rfl (zq_o_46 _), ?_⟩
  replace h := zq_nx1 (q := 57) h rfl
  refine ⟨zq_k_n 172 h rfl (zq_o_172 _), ?_⟩
  replace h := zq_nx1 (q := 58) h rfl
  refine ⟨zq_k_n 42 h rfl (zq_o_42 _), ?_⟩
  replace h := zq_nx1 (q := 59) h rfl
  refine ⟨zq_k_u2 180 (fun z => .getfield z) 7 h rfl (zq_o_180 _) (by decide +kernel), ?_⟩
  replace h := zq_nx3 (q := 62) h rfl
  refine ⟨zq_k_s1 16 (fun z => .bipush z) 40 h rfl (zq_o_16 _) (by decide +kernel), ?_⟩
  replace h := zq_nx2 (q := 64) h rfl
  refine ⟨zq_k_n 46 h rfl (zq_o_46 _), ?_⟩
  replace h := zq_nx1 (q := 65) h rfl
  refine ⟨zq_k_n 172 h rfl (zq_o_172 _), ?_⟩
  replace h := zq_nx1 (q := 66) h rfl
  refine ⟨zq_k_n 42 h rfl (zq_o_42 _), ?_⟩
  replace h := zq_nx1 (q := 67) h rfl
  refine ⟨zq_k_u2 180 (fun z => .getfield z) 7 h rfl (zq_o_180 _) (by decide +kernel), ?_⟩
  replace h := zq_nx3 (q := 70) h rfl
  refine ⟨zq_k_s1 16 (fun z => .bipush z) 10 h rfl (zq_o_16 _) (by decide +kernel), ?_⟩
  replace h := zq_nx2 (q := 72) h rfl
  refine ⟨zq_k_n 46 h rfl (zq_o_46 _), ?_⟩
  replace h := zq_nx1 (q := 73) h rfl
  refine ⟨zq_k_n 172 h rfl (zq_o_172 _), ?_⟩
  replace h := zq_nx1 (q := 74) h rfl
  exact zq_k_n 42 h rfl (zq_o_42 _)
theorem d_M_rule_0 : decode prog_10_method_35_code 0 = .ok (.iload_n 1, 1) := dd_M_rule_0.1
theorem d_M_rule_1 : decode prog_10_method_35_code 1 = .ok (.tableswitch 81 0 5 #[39, 44, 49, 57, 65, 73], 39) := dd_M_rule_0.2.1
theorem d_M_rule_40 : decode prog_10_method_35_code 40 = .ok (.aload_n 0, 1) := dd_M_rule_0.2.2.1
theorem d_M_rule_41 : decode prog_10_method_35_code 41 = .ok (.getfield 106, 3) := dd_M_rule_0.2.2.2.1
theorem d_M_rule_44 : decode prog_10_method_35_code 44 = .ok (.ireturn, 1) := dd_M_rule_0.2.2.2.2.1
theorem d_M_rule_45 : decode prog_10_method_35_code 45 = .ok (.aload_n 0, 1) := dd_M_rule_0.2.2.2.2.2.1
theorem d_M_rule_46 : decode prog_10_method_35_code 46 = .ok (.getfield 109, 3) := dd_M_rule_0.2.2.2.2.2.2.1
theorem d_M_rule_49 : decode prog_10_method_35_code 49 = .ok (.ireturn, 1) := dd_M_rule_0.2.2.2.2.2.2.2.1
theorem d_M_rule_50 : decode prog_10_method_35_code 50 = .ok (.aload_n 0, 1) := dd_M_rule_0.2.2.2.2.2.2.2.2.1
theorem d_M_rule_51 : decode prog_10_method_35_code 51 = .ok (.getfield 7, 3) := dd_M_rule_0.2.2.2.2.2.2.2.2.2.1
theorem d_M_rule_54 : decode prog_10_method_35_code 54 = .ok (.bipush 39, 2) := dd_M_rule_0.2.2.2.2.2.2.2.2.2.2.1
theorem d_M_rule_56 : decode prog_10_method_35_code 56 = .ok (.iaload, 1) := dd_M_rule_0.2.2.2.2.2.2.2.2.2.2.2.1
theorem d_M_rule_57 : decode prog_10_method_35_code 57 = .ok (.ireturn, 1) := dd_M_rule_0.2.2.2.2.2.2.2.2.2.2.2.2.1
theorem d_M_rule_58 : decode prog_10_method_35_code 58 = .ok (.aload_n 0, 1) := dd_M_rule_0.2.2.2.2.2.2.2.2.2.2.2.2.2.1
theorem d_M_rule_59 : decode prog_10_method_35_code 59 = .ok (.getfield 7, 3) := dd_M_rule_0.2.2.2.2.2.2.2.2.2.2.2.2.2.2.1
theorem d_M_rule_62 : decode prog_10_method_35_code 62 = .ok (.bipush 40, 2) := dd_M_rule_0.2.2.2.2.2.2.2.2.2.2.2.2.2.2.2.1
theorem d_M_rule_64 : decode prog_10_method_35_code 64 = .ok (.iaload, 1) := dd_M_rule_0.2.2.2.2.2.2.2.2.2.2.2.2.2.2.2.2.1
theorem d_M_rule_65 : decode prog_10_method_35_code 65 = .ok (.ireturn, 1) := dd_M_rule_0.2.2.2.2.2.2.2.2.2.2.2.2.2.2.2.2.2.1
theorem d_M_rule_66 : decode prog_10_method_35_code 66 = .ok (.aload_n 0, 1) := dd_M_rule_0.2.2.2.2.2.2.2.2.2.2.2.2.2.2.2.2.2.2.1
theorem d_M_rule_67 : decode prog_10_method_35_code 67 = .ok (.getfield 7, 3) := dd_M_rule_0.2.2.2.2.2.2.2.2.2.2.2.2.2.2.2.2.2.2.2.1
theorem d_M_rule_70 : decode prog_10_method_35_code 70 = .ok (.bipush 10, 2) := dd_M_rule_0.2.2.2.2.2.2.2.2.2.2.2.2.2.2.2.2.2.2.2.2.1
theorem d_M_rule_72 : decode prog_10_method_35_code 72 = .ok (.iaload, 1) := dd_M_rule_0.2.2.2.2.2.2.2.2.2.2.2.2.2.2.2.2.2.2.2.2.2.1
theorem d_M_rule_73 : decode prog_10_method_35_code 73 = .ok (.ireturn, 1) := dd_M_rule_0.2.2.2.2.2.2.2.2.2.2.2.2.2.2.2.2.2.2.2.2.2.2.1
theorem d_M_rule_74 : decode prog_10_method_35_code 74 = .ok (.aload_n 0, 1) := dd_M_rule_0.2.2.2.2.2.2.2.2.2.2.2.2.2.2.2.2.2.2.2.2.2.2.2
set_option maxRecDepth 100000 in
theorem dd_M_rule_75 : (decode prog_10_method_35_code 75 = .ok (.getfield 7, 3)) ∧ (decode prog_10_method_35_code 78 = .ok (.bipush 11, 2)) ∧ (decode prog_10_method_35_code 80 = .ok (.iaload, 1)) ∧ (decode prog_10_method_35_code 81 = .ok (.ireturn, 1)) ∧ (decode prog_10_method_35_code 82 = .ok (.iconst (-1), 1)) ∧ (decode prog_10_method_35_code 83 = .ok (.ireturn, 1)) := by
  have h : List.drop 75 prog_10_method_35_code.data.toList = 0xb4 :: _ := rfl
  refine ⟨zq_k_u2 180 (fun z => .getfield z) 7 h rfl (zq_o_180 _) (by decide +kernel), ?_⟩
  replace h := zq_nx3 (q := 78) h rfl
  refine ⟨zq_k_s1 16 (fun z => .bipush z) 11 h rfl (zq_o_16 _) (by decide +kernel), ?_⟩
  replace h := zq_nx2 (q := 80) h rfl
  refine ⟨zq_k_n 46 h rfl (zq_o_46 _), ?_⟩
  replace h := zq_nx1 (q := 81) h rfl
  refine ⟨zq_k_n 172 h rfl (zq_o_172 _), ?_⟩
  replace h := zq_nx1 (q := 82) h rfl
  refine ⟨zq_k_n 2 h rfl (zq_o_2 _), ?_⟩
  replace h := zq_nx1 (q := 83) h rfl
  exact zq_k_n 172 h rfl (zq_o_172 _)
theorem d_M_rule_75 : decode prog_10_method_35_code 75 = .ok (.getfield 7, 3) := dd_M_rule_75.1
theorem d_M_rule_78 : decode prog_10_method_35_code 78 = .ok (.bipush 11, 2) := dd_M_rule_75.2.1
theorem d_M_rule_80 : decode prog_10_method_35_code 80 = .ok (.iaload, 1) := dd_M_rule_75.2.2.1
theorem d_M_rule_81 : decode prog_10_method_35_code 81 = .ok (.ireturn, 1) := dd_M_rule_75.2.2.2.1
theorem d_M_rule_82 : decode prog_10_method_35_code 82 = .ok (.iconst (-1), 1) := dd_M_rule_75.2.2.2.2.1
theorem d_M_rule_83 : decode prog_10_method_35_code 83 = .ok (.ireturn, 1) := dd_M_rule_75.2.2.2.2.2
def f_M_rule_0  (a0 : Nat) (a1 : Int32) (h : mH) : Option (Int32 × mH) :=
  if a1 = (0 : Int32) then
    bd1 (gI h a0 8 2) fun x2 =>
    some (x2, h)
  else
  if a1 = (1 : Int32) then
    bd1 (gI h a0 8 3) fun x5 =>
    some (x5, h)
  else
  if a1 = (2 : Int32) then
    bd1 (gR h a0 8 0) fun x8 =>
    bd1 (aI h 0 x8 (39 : Int32)) fun x10 =>
    some (x10, h)
  else
  if a1 = (3 : Int32) then
    bd1 (gR h a0 8 0) fun x13 =>
    bd1 (aI h 0 x13 (40 : Int32)) fun x15 =>
    some (x15, h)
  else
  if a1 = (4 : Int32) then
    bd1 (gR h a0 8 0) fun x18 =>
    bd1 (aI h 0 x18 (10 : Int32)) fun x20 =>
    some (x20, h)
  else
  if a1 = (5 : Int32) then
    bd1 (gR h a0 8 0) fun x23 =>
    bd1 (aI h 0 x23 (11 : Int32)) fun x25 =>
    some (x25, h)
  else
  some (((-1) : Int32), h)
set_option maxRecDepth 20000 in
theorem t_M_rule_0 {sc : Nat × (Nat → Int32)}  (a0 : Nat) (a1 : Int32) (h : mH) (r : Int32) (h' : mH) (hf : f_M_rule_0  a0 a1 h = some (r, h')) : G sc y_M_rule prog_10_method_35_code 2 (some .int) 0 0 0 [(0, .ref a0), (1, .int a1)] [] h (some (.int r)) h' := by
  unfold f_M_rule_0 at hf
  refine g_iload_n (pc := 0) 1 d_M_rule_0 rfl rfl ?_
  by_cases c1 : a1 = (0 : Int32)
  · replace hf := (if_pos c1).symm.trans hf
    refine g_tabIn (pc := 1) 40 (0 : Int32) d_M_rule_1 c1 (by decide) (by decide) rfl (by decide) ?_
    refine g_aload_n (pc := 40) 0 d_M_rule_40 rfl rfl ?_
    obtain ⟨x2, e3, hf⟩ := bd1_e hf
    refine g_get (pc := 41) (ci := 8) (kk := 2) d_M_rule_41 rfl in_M (by decide) wd_940 (gI_spec e3) ?_
    obtain ⟨rfl, rfl⟩ := ret2 hf
    exact g_iret (pc := 44) rfl d_M_rule_44
  replace hf := (if_neg c1).symm.trans hf
  by_cases c4 : a1 = (1 : Int32)
  · replace hf := (if_pos c4).symm.trans hf
    refine g_tabIn (pc := 1) 45 (1 : Int32) d_M_rule_1 c4 (by decide) (by decide) rfl (by decide) ?_
    refine g_aload_n (pc := 45) 0 d_M_rule_45 rfl rfl ?_
    obtain ⟨x5, e6, hf⟩ := bd1_e hf
    refine g_get (pc := 46) (ci := 8) (kk := 3) d_M_rule_46 rfl in_M (by decide) wd_941 (gI_spec e6) ?_
    obtain ⟨rfl, rfl⟩ := ret2 hf
    exact g_iret (pc := 49) rfl d_M_rule_49
  replace hf := (if_neg c4).symm.trans hf
  by_cases c7 : a1 = (2 : Int32)
  · replace hf := (if_pos c7).symm.trans hf
    refine g_tabIn (pc := 1) 50 (2 : Int32) d_M_rule_1 c7 (by decide) (by decide) rfl (by decide) ?_
    refine g_aload_n (pc := 50) 0 d_M_rule_50 rfl rfl ?_
    obtain ⟨x8, e9, hf⟩ := bd1_e hf
    refine g_get (pc := 51) (ci := 8) (kk := 0) d_M_rule_51 rfl in_M (by decide) wd_938 (gR_spec e9) ?_
    refine g_bipush (pc := 54) (39 : Int32) d_M_rule_54 (by decide) ?_
    obtain ⟨x10, e11, hf⟩ := bd1_e hf
    refine g_iald (pc := 56) d_M_rule_56 e11 ?_
    obtain ⟨rfl, rfl⟩ := ret2 hf
    exact g_iret (pc := 57) rfl d_M_rule_57
  replace hf := (if_neg c7).symm.trans hf
  by_cases c12 : a1 = (3 : Int32)
  · replace hf := (if_pos c12).symm.trans hf
    refine g_tabIn (pc := 1) 58 (3 : Int32) d_M_rule_1 c12 (by decide) (by decide) rfl (by decide) ?_
    refine g_aload_n (pc := 58) 0 d_M_rule_58 rfl rfl ?_
    obtain ⟨x13, e14, hf⟩ := bd1_e hf
    refine g_get (pc := 59) (ci := 8) (kk := 0) d_M_rule_59 rfl in_M (by decide) wd_938 (gR_spec e14) ?_
    refine g_bipush (pc := 62) (40 : Int32) d_M_rule_62 (by decide) ?_
    obtain ⟨x15, e16, hf⟩ := bd1_e hf
    refine g_iald (pc := 64) d_M_rule_64 e16 ?_
    obtain ⟨rfl, rfl⟩ := ret2 hf
    exact g_iret (pc := 65) rfl d_M_rule_65
  replace hf := (if_neg c12).symm.trans hf
  by_cases c17 : a1 = (4 : Int32)
  · replace hf := (if_pos c17).symm.trans hf
    refine g_tabIn (pc := 1) 66 (4 : Int32) d_M_rule_1 c17 (by decide) (by decide) rfl (by decide) ?_
    refine g_aload_n (pc := 66) 0 d_M_rule_66 rfl rfl ?_
    obtain ⟨x18, e19, hf⟩ := bd1_e hf
    refine g_get (pc := 67) (ci := 8) (kk := 0) d_M_rule_67 rfl in_M (by decide) wd_938 (gR_spec e19) ?_
    refine g_bipush (pc := 70) (10 : Int32) d_M_rule_70 (by decide) ?_
    obtain ⟨x20, e21, hf⟩ := bd1_e hf
    refine g_iald (pc := 72) d_M_rule_72 e21 ?_
    obtain ⟨rfl, rfl⟩ := ret2 hf
    exact g_iret (pc := 73) rfl d_M_rule_73
  replace hf := (if_neg c17).symm.trans hf
  by_cases c22 : a1 = (5 : Int32)
  · replace hf := (if_pos c22).symm.trans hf
    refine g_tabIn (pc := 1) 74 (5 : Int32) d_M_rule_1 c22 (by decide) (by decide) rfl (by decide) ?_
    refine g_aload_n (pc := 74) 0 d_M_rule_74 rfl rfl ?_
    obtain ⟨x23, e24, hf⟩ := bd1_e hf
    refine g_get (pc := 75) (ci := 8) (kk := 0) d_M_rule_75 rfl in_M (by decide) wd_938 (gR_spec e24) ?_
    refine g_bipush (pc := 78) (11 : Int32) d_M_rule_78 (by decide) ?_
    obtain ⟨x25, e26, hf⟩ := bd1_e hf
    refine g_iald (pc := 80) d_M_rule_80 e26 ?_
    obtain ⟨rfl, rfl⟩ := ret2 hf
    exact g_iret (pc := 81) rfl d_M_rule_81
  replace hf := (if_neg c22).symm.trans hf
  refine g_tabOut (pc := 1) 82 6 d_M_rule_1 (by decide) (fun i hi => ?_) (by decide) ?_
  · rcases (show i = 0 ∨ i = 1 ∨ i = 2 ∨ i = 3 ∨ i = 4 ∨ i = 5 by omega) with rfl | rfl | rfl | rfl | rfl | rfl
    · exact c1
    · exact c4
    · exact c7
    · exact c12
    · exact c17
    · exact c22
  refine g_iconst (pc := 82) ((-1) : Int32) d_M_rule_82 (by decide) ?_
  obtain ⟨rfl, rfl⟩ := ret2 hf
  exact g_iret (pc := 83) rfl d_M_rule_83
def f_M_rule (a0 : Nat) (a1 : Int32) (h : mH) : Option (Int32 × mH) := f_M_rule_0 a0 a1 h
theorem c_M_rule {sc : Nat × (Nat → Int32)} {a0 : Nat} {a1 : Int32} {h : mH} {r : Int32} {h' : mH} (hf : f_M_rule a0 a1 h = some (r, h')) : MM sc y_M_rule prog_10_method_35_code 2 (some .int) 0 0 [.ref a0, .int a1] h (some (.int r)) h' :=
  mm_of_G (by decide) (Nat.le_of_ble_eq_true rfl) (t_M_rule_0 _ _ _ _ _ hf)
/-! M isLaw (I)Z -/
set_option maxRecDepth 100000 in
theorem dd_M_isLaw_0 : (decode prog_10_method_23_code 0 = .ok (.iload_n 1, 1)) ∧ (decode prog_10_method_23_code 1 = .ok (.i2l, 1)) ∧ (decode prog_10_method_23_code 2 = .ok (.lconst 0, 1)) ∧ (decode prog_10_method_23_code 3 = .ok (.aload_n 0, 1)) ∧ (decode prog_10_method_23_code 4 = .ok (.getfield 106, 3)) ∧ (decode prog_10_method_23_code 7 = .ok (.iconst 1, 1)) ∧ (decode prog_10_method_23_code 8 = .ok (.isub, 1)) ∧ (decode prog_10_method_23_code 9 = .ok (.i2l, 1)) ∧ (decode prog_10_method_23_code 10 = .ok (.invokestatic 114, 3)) ∧ (decode prog_10_method_23_code 13 = .ok (.ireturn, 1)) := by
  have h : List.drop 0 prog_10_method_23_code.data.toList = 0x1b :: _ := rfl
  refine ⟨zq_k_n 27 h rfl (zq_o_27 _), ?_⟩
  replace h := zq_nx1 (q := 1) h rfl
  refine ⟨zq_k_n 133 h rfl (zq_o_133 _), ?_⟩
  replace h := zq_nx1 (q := 2) h rfl
  refine ⟨zq_k_n 9 h rfl (zq_o_9 _), ?_⟩
  replace h := zq_nx1 (q := 3) h rfl
  refine ⟨zq_k_n 42 h rfl (zq_o_42 _), ?_⟩
  replace h := zq_nx1 (q := 4) h rfl
  refine ⟨zq_k_u2 180 (fun z => .getfield z) 106 h rfl (zq_o_180 _) (by decide +kernel), ?_⟩
  replace h := zq_nx3 (q := 7) h rfl
  refine ⟨zq_k_n 4 h rfl (zq_o_4 _), ?_⟩
  replace h := zq_nx1 (q := 8) h rfl
  refine ⟨zq_k_n 100 h rfl (zq_o_100 _), ?_⟩
  replace h := zq_nx1 (q := 9) h rfl
  refine ⟨zq_k_n 133 h rfl (zq_o_133 _), ?_⟩
  replace h := zq_nx1 (q := 10) h rfl
  refine ⟨zq_k_u2 184 (fun z => .invokestatic z) 114 h rfl (zq_o_184 _) (by decide +kernel), ?_⟩
  replace h := zq_nx3 (q := 13) h rfl
  exact zq_k_n 172 h rfl (zq_o_172 _)
theorem d_M_isLaw_0 : decode prog_10_method_23_code 0 = .ok (.iload_n 1, 1) := dd_M_isLaw_0.1
theorem d_M_isLaw_1 : decode prog_10_method_23_code 1 = .ok (.i2l, 1) := dd_M_isLaw_0.2.1
theorem d_M_isLaw_2 : decode prog_10_method_23_code 2 = .ok (.lconst 0, 1) := dd_M_isLaw_0.2.2.1
theorem d_M_isLaw_3 : decode prog_10_method_23_code 3 = .ok (.aload_n 0, 1) := dd_M_isLaw_0.2.2.2.1
theorem d_M_isLaw_4 : decode prog_10_method_23_code 4 = .ok (.getfield 106, 3) := dd_M_isLaw_0.2.2.2.2.1
theorem d_M_isLaw_7 : decode prog_10_method_23_code 7 = .ok (.iconst 1, 1) := dd_M_isLaw_0.2.2.2.2.2.1
theorem d_M_isLaw_8 : decode prog_10_method_23_code 8 = .ok (.isub, 1) := dd_M_isLaw_0.2.2.2.2.2.2.1
theorem d_M_isLaw_9 : decode prog_10_method_23_code 9 = .ok (.i2l, 1) := dd_M_isLaw_0.2.2.2.2.2.2.2.1
theorem d_M_isLaw_10 : decode prog_10_method_23_code 10 = .ok (.invokestatic 114, 3) := dd_M_isLaw_0.2.2.2.2.2.2.2.2.1
theorem d_M_isLaw_13 : decode prog_10_method_23_code 13 = .ok (.ireturn, 1) := dd_M_isLaw_0.2.2.2.2.2.2.2.2.2
def f_M_isLaw_0  (a0 : Nat) (a1 : Int32) (h : mH) : Option (Int32 × mH) :=
  bd1 (gI h a0 8 2) fun x1 =>
  bd2 (f_M_in a1.toInt64 (0 : Int64) ((x1 - (1 : Int32)).toInt64) h) fun x5 h3 =>
  if x5 = 0 ∨ x5 = 1 then some (x5, h3) else none
set_option maxRecDepth 20000 in
theorem t_M_isLaw_0 {sc : Nat × (Nat → Int32)}  (a0 : Nat) (a1 : Int32) (h : mH) (r : Int32) (h' : mH) (hf : f_M_isLaw_0  a0 a1 h = some (r, h')) : G sc y_M_isLaw prog_10_method_23_code 2 (some .boolean) 1 25 0 [(0, .ref a0), (1, .int a1)] [] h (some (.int r)) h' := by
  unfold f_M_isLaw_0 at hf
  refine g_iload_n (pc := 0) 1 d_M_isLaw_0 rfl rfl ?_
  refine g_i2l (pc := 1) d_M_isLaw_1 ?_
  refine g_lconst (pc := 2) (0 : Int64) d_M_isLaw_2 (by decide) ?_
  refine g_aload_n (pc := 3) 0 d_M_isLaw_3 rfl rfl ?_
  obtain ⟨x1, e2, hf⟩ := bd1_e hf
  refine g_get (pc := 4) (ci := 8) (kk := 2) d_M_isLaw_4 rfl in_M (by decide) wd_940 (gI_spec e2) ?_
  refine g_iconst (pc := 7) (1 : Int32) d_M_isLaw_7 (by decide) ?_
  refine g_isub (pc := 8) d_M_isLaw_8 ?_
  refine g_i2l (pc := 9) d_M_isLaw_9 ?_
  obtain ⟨x5, h3, e4, hf⟩ := bd2_e hf
  refine g_callS (pc := 10) [.long a1.toInt64, .long (0 : Int64), .long ((x1 - (1 : Int32)).toInt64)] (site_of si_M_in (by decide) (by decide)) wd_1061 wd_1062 d_M_isLaw_10 (Nat.le_of_ble_eq_true rfl) (fun z => absurd z (by decide)) (fun z => absurd z (by decide)) (fun z => absurd z (by decide)) (c_M_in e4) rfl ?_
  refine g_st [.int x5] rfl ?_
  by_cases c6 : x5 = 0 ∨ x5 = 1
  · replace hf := (if_pos c6).symm.trans hf
    obtain ⟨rfl, rfl⟩ := ret2 hf
    exact g_zret (pc := 13) rfl (nar_z c6) d_M_isLaw_13
  · exact absurd ((if_neg c6).symm.trans hf) (by simp)
def f_M_isLaw (a0 : Nat) (a1 : Int32) (h : mH) : Option (Int32 × mH) := f_M_isLaw_0 a0 a1 h
theorem c_M_isLaw {sc : Nat × (Nat → Int32)} {a0 : Nat} {a1 : Int32} {h : mH} {r : Int32} {h' : mH} (hf : f_M_isLaw a0 a1 h = some (r, h')) : MM sc y_M_isLaw prog_10_method_23_code 2 (some .boolean) 1 25 [.ref a0, .int a1] h (some (.int r)) h' :=
  mm_of_G (by decide) (Nat.le_of_ble_eq_true rfl) (t_M_isLaw_0 _ _ _ _ _ hf)
/-! M doesStand (I)Z -/
set_option maxRecDepth 100000 in
theorem dd_M_doesStand_0 : (decode prog_10_method_26_code 0 = .ok (.aload_n 0, 1)) ∧ (decode prog_10_method_26_code 1 = .ok (.getfield 7, 3)) ∧ (decode prog_10_method_26_code 4 = .ok (.bipush 10, 2)) ∧ (decode prog_10_method_26_code 6 = .ok (.iaload, 1)) ∧ (decode prog_10_method_26_code 7 = .ok (.iload_n 1, 1)) ∧ (decode prog_10_method_26_code 8 = .ok (.ishr, 1)) ∧ (decode prog_10_method_26_code 9 = .ok (.iconst 1, 1)) ∧ (decode prog_10_method_26_code 10 = .ok (.iand, 1)) ∧ (decode prog_10_method_26_code 11 = .ok (.iconst 1, 1)) ∧ (decode prog_10_method_26_code 12 = .ok (.if_icmp .ne 7, 3)) ∧ (decode prog_10_method_26_code 15 = .ok (.iconst 1, 1)) ∧ (decode prog_10_method_26_code 16 = .ok (.goto 4, 3)) ∧ (decode prog_10_method_26_code 19 = .ok (.iconst 0, 1)) ∧ (decode prog_10_method_26_code 20 = .ok (.ireturn, 1)) := by
  have h : List.drop 0 prog_10_method_26_code.data.toList = 0x2a :: _ := rfl
  refine ⟨zq_k_n 42 h rfl (zq_o_42 _), ?_⟩
  replace h := zq_nx1 (q := 1) h rfl
  refine ⟨zq_k_u2 180 (fun z => .getfield z) 7 h rfl (zq_o_180 _) (by decide +kernel), ?_⟩
  replace h := zq_nx3 (q := 4) h rfl
  refine ⟨zq_k_s1 16 (fun z => .bipush z) 10 h rfl (zq_o_16 _) (by decide +kernel), ?_⟩
  replace h := zq_nx2 (q := 6) h rfl
  refine ⟨zq_k_n 46 h rfl (zq_o_46 _), ?_⟩
  replace h := zq_nx1 (q := 7) h rfl
  refine ⟨zq_k_n 27 h rfl (zq_o_27 _), ?_⟩
  replace h := zq_nx1 (q := 8) h rfl
  refine ⟨zq_k_n 122 h rfl (zq_o_122 _), ?_⟩
  replace h := zq_nx1 (q := 9) h rfl
  refine ⟨zq_k_n 4 h rfl (zq_o_4 _), ?_⟩
  replace h := zq_nx1 (q := 10) h rfl
  refine ⟨zq_k_n 126 h rfl (zq_o_126 _), ?_⟩
  replace h := zq_nx1 (q := 11) h rfl
  refine ⟨zq_k_n 4 h rfl (zq_o_4 _), ?_⟩
  replace h := zq_nx1 (q := 12) h rfl
  refine ⟨zq_k_s2 160 (fun z => .if_icmp .ne z) 7 h rfl (zq_o_160 _) (by decide +kernel), ?_⟩
  replace h := zq_nx3 (q := 15) h rfl
  refine ⟨zq_k_n 4 h rfl (zq_o_4 _), ?_⟩
  replace h := zq_nx1 (q := 16) h rfl
  refine ⟨zq_k_s2 167 (fun z => .goto z) 4 h rfl (zq_o_167 _) (by decide +kernel), ?_⟩
  replace h := zq_nx3 (q := 19) h rfl
  refine ⟨zq_k_n 3 h rfl (zq_o_3 _), ?_⟩
  replace h := zq_nx1 (q := 20) h rfl
  exact zq_k_n 172 h rfl (zq_o_172 _)
theorem d_M_doesStand_0 : decode prog_10_method_26_code 0 = .ok (.aload_n 0, 1) := dd_M_doesStand_0.1
theorem d_M_doesStand_1 : decode prog_10_method_26_code 1 = .ok (.getfield 7, 3) := dd_M_doesStand_0.2.1
theorem d_M_doesStand_4 : decode prog_10_method_26_code 4 = .ok (.bipush 10, 2) := dd_M_doesStand_0.2.2.1
theorem d_M_doesStand_6 : decode prog_10_method_26_code 6 = .ok (.iaload, 1) := dd_M_doesStand_0.2.2.2.1
theorem d_M_doesStand_7 : decode prog_10_method_26_code 7 = .ok (.iload_n 1, 1) := dd_M_doesStand_0.2.2.2.2.1
theorem d_M_doesStand_8 : decode prog_10_method_26_code 8 = .ok (.ishr, 1) := dd_M_doesStand_0.2.2.2.2.2.1
theorem d_M_doesStand_9 : decode prog_10_method_26_code 9 = .ok (.iconst 1, 1) := dd_M_doesStand_0.2.2.2.2.2.2.1
theorem d_M_doesStand_10 : decode prog_10_method_26_code 10 = .ok (.iand, 1) := dd_M_doesStand_0.2.2.2.2.2.2.2.1
theorem d_M_doesStand_11 : decode prog_10_method_26_code 11 = .ok (.iconst 1, 1) := dd_M_doesStand_0.2.2.2.2.2.2.2.2.1
theorem d_M_doesStand_12 : decode prog_10_method_26_code 12 = .ok (.if_icmp .ne 7, 3) := dd_M_doesStand_0.2.2.2.2.2.2.2.2.2.1
theorem d_M_doesStand_15 : decode prog_10_method_26_code 15 = .ok (.iconst 1, 1) := dd_M_doesStand_0.2.2.2.2.2.2.2.2.2.2.1
theorem d_M_doesStand_16 : decode prog_10_method_26_code 16 = .ok (.goto 4, 3) := dd_M_doesStand_0.2.2.2.2.2.2.2.2.2.2.2.1
theorem d_M_doesStand_19 : decode prog_10_method_26_code 19 = .ok (.iconst 0, 1) := dd_M_doesStand_0.2.2.2.2.2.2.2.2.2.2.2.2.1
theorem d_M_doesStand_20 : decode prog_10_method_26_code 20 = .ok (.ireturn, 1) := dd_M_doesStand_0.2.2.2.2.2.2.2.2.2.2.2.2.2
def f_M_doesStand_0  (a0 : Nat) (a1 : Int32) (h : mH) : Option (Int32 × mH) :=
  bd1 (gR h a0 8 0) fun x1 =>
  bd1 (aI h 0 x1 (10 : Int32)) fun x3 =>
  if ((x3 >>> (a1 &&& 31)) &&& (1 : Int32)) = (1 : Int32) then
    some ((1 : Int32), h)
  else
    some ((0 : Int32), h)
set_option maxRecDepth 20000 in
theorem t_M_doesStand_0 {sc : Nat × (Nat → Int32)}  (a0 : Nat) (a1 : Int32) (h : mH) (r : Int32) (h' : mH) (hf : f_M_doesStand_0  a0 a1 h = some (r, h')) : G sc y_M_doesStand prog_10_method_26_code 2 (some .boolean) 0 0 0 [(0, .ref a0), (1, .int a1)] [] h (some (.int r)) h' := by
  unfold f_M_doesStand_0 at hf
  refine g_aload_n (pc := 0) 0 d_M_doesStand_0 rfl rfl ?_
  obtain ⟨x1, e2, hf⟩ := bd1_e hf
  refine g_get (pc := 1) (ci := 8) (kk := 0) d_M_doesStand_1 rfl in_M (by decide) wd_938 (gR_spec e2) ?_
  refine g_bipush (pc := 4) (10 : Int32) d_M_doesStand_4 (by decide) ?_
  obtain ⟨x3, e4, hf⟩ := bd1_e hf
  refine g_iald (pc := 6) d_M_doesStand_6 e4 ?_
  refine g_iload_n (pc := 7) 1 d_M_doesStand_7 rfl rfl ?_
  refine g_ishr (pc := 8) d_M_doesStand_8 ?_
  refine g_iconst (pc := 9) (1 : Int32) d_M_doesStand_9 (by decide) ?_
  refine g_iand (pc := 10) d_M_doesStand_10 ?_
  refine g_iconst (pc := 11) (1 : Int32) d_M_doesStand_11 (by decide) ?_
  refine g_icmpne (pc := 12) 19 d_M_doesStand_12 (by decide) (fun c5 => ?_) (fun c5 => ?_)
  · replace hf := (if_neg c5).symm.trans hf
    refine g_iconst (pc := 19) (0 : Int32) d_M_doesStand_19 (by decide) ?_
    obtain ⟨rfl, rfl⟩ := ret2 hf
    exact g_zret (pc := 20) rfl rfl d_M_doesStand_20
  · replace hf := (if_pos c5).symm.trans hf
    refine g_iconst (pc := 15) (1 : Int32) d_M_doesStand_15 (by decide) ?_
    refine g_goto (pc := 16) 20 d_M_doesStand_16 (by decide) ?_
    obtain ⟨rfl, rfl⟩ := ret2 hf
    exact g_zret (pc := 20) rfl rfl d_M_doesStand_20
def f_M_doesStand (a0 : Nat) (a1 : Int32) (h : mH) : Option (Int32 × mH) := f_M_doesStand_0 a0 a1 h
theorem c_M_doesStand {sc : Nat × (Nat → Int32)} {a0 : Nat} {a1 : Int32} {h : mH} {r : Int32} {h' : mH} (hf : f_M_doesStand a0 a1 h = some (r, h')) : MM sc y_M_doesStand prog_10_method_26_code 2 (some .boolean) 0 0 [.ref a0, .int a1] h (some (.int r)) h' :=
  mm_of_G (by decide) (Nat.le_of_ble_eq_true rfl) (t_M_doesStand_0 _ _ _ _ _ hf)
/-! M brokenBy (II)I -/
set_option maxRecDepth 100000 in
theorem dd_M_brokenBy_0 : (decode prog_10_method_27_code 0 = .ok (.aload_n 0, 1)) ∧ (decode prog_10_method_27_code 1 = .ok (.getfield 7, 3)) ∧ (decode prog_10_method_27_code 4 = .ok (.bipush 24, 2)) ∧ (decode prog_10_method_27_code 6 = .ok (.iconst 5, 1)) ∧ (decode prog_10_method_27_code 7 = .ok (.iload_n 1, 1)) ∧ (decode prog_10_method_27_code 8 = .ok (.imul, 1)) ∧ (decode prog_10_method_27_code 9 = .ok (.iadd, 1)) ∧ (decode prog_10_method_27_code 10 = .ok (.iload_n 2, 1)) ∧ (decode prog_10_method_27_code 11 = .ok (.iadd, 1)) ∧ (decode prog_10_method_27_code 12 = .ok (.iaload, 1)) ∧ (decode prog_10_method_27_code 13 = .ok (.ireturn, 1)) := by
  have h : List.drop 0 prog_10_method_27_code.data.toList = 0x2a :: _ := rfl
  refine ⟨zq_k_n 42 h rfl (zq_o_42 _), ?_⟩
  replace h := zq_nx1 (q := 1) h rfl
  refine ⟨zq_k_u2 180 (fun z => .getfield z) 7 h rfl (zq_o_180 _) (by decide +kernel), ?_⟩
  replace h := zq_nx3 (q := 4) h rfl
  refine ⟨zq_k_s1 16 (fun z => .bipush z) 24 h rfl (zq_o_16 _) (by decide +kernel), ?_⟩
  replace h := zq_nx2 (q := 6) h rfl
  refine ⟨zq_k_n 8 h rfl (zq_o_8 _), ?_⟩
  replace h := zq_nx1 (q := 7) h rfl
  refine ⟨zq_k_n 27 h rfl (zq_o_27 _), ?_⟩
  replace h := zq_nx1 (q := 8) h rfl
  refine ⟨zq_k_n 104 h rfl (zq_o_104 _), ?_⟩
  replace h := zq_nx1 (q := 9) h rfl
  refine ⟨zq_k_n 96 h rfl (zq_o_96 _), ?_⟩
  replace h := zq_nx1 (q := 10) h rfl
  refine ⟨zq_k_n 28 h rfl (zq_o_28 _), ?_⟩
  replace h := zq_nx1 (q := 11) h rfl
  refine ⟨zq_k_n 96 h rfl (zq_o_96 _), ?_⟩
  replace h := zq_nx1 (q := 12) h rfl
  refine ⟨zq_k_n 46 h rfl (zq_o_46 _), ?_⟩
  replace h := zq_nx1 (q := 13) h rfl
  exact zq_k_n 172 h rfl (zq_o_172 _)
theorem d_M_brokenBy_0 : decode prog_10_method_27_code 0 = .ok (.aload_n 0, 1) := dd_M_brokenBy_0.1
theorem d_M_brokenBy_1 : decode prog_10_method_27_code 1 = .ok (.getfield 7, 3) := dd_M_brokenBy_0.2.1
theorem d_M_brokenBy_4 : decode prog_10_method_27_code 4 = .ok (.bipush 24, 2) := dd_M_brokenBy_0.2.2.1
theorem d_M_brokenBy_6 : decode prog_10_method_27_code 6 = .ok (.iconst 5, 1) := dd_M_brokenBy_0.2.2.2.1
theorem d_M_brokenBy_7 : decode prog_10_method_27_code 7 = .ok (.iload_n 1, 1) := dd_M_brokenBy_0.2.2.2.2.1
theorem d_M_brokenBy_8 : decode prog_10_method_27_code 8 = .ok (.imul, 1) := dd_M_brokenBy_0.2.2.2.2.2.1
theorem d_M_brokenBy_9 : decode prog_10_method_27_code 9 = .ok (.iadd, 1) := dd_M_brokenBy_0.2.2.2.2.2.2.1
theorem d_M_brokenBy_10 : decode prog_10_method_27_code 10 = .ok (.iload_n 2, 1) := dd_M_brokenBy_0.2.2.2.2.2.2.2.1
theorem d_M_brokenBy_11 : decode prog_10_method_27_code 11 = .ok (.iadd, 1) := dd_M_brokenBy_0.2.2.2.2.2.2.2.2.1
theorem d_M_brokenBy_12 : decode prog_10_method_27_code 12 = .ok (.iaload, 1) := dd_M_brokenBy_0.2.2.2.2.2.2.2.2.2.1
theorem d_M_brokenBy_13 : decode prog_10_method_27_code 13 = .ok (.ireturn, 1) := dd_M_brokenBy_0.2.2.2.2.2.2.2.2.2.2
def f_M_brokenBy_0  (a0 : Nat) (a1 : Int32) (a2 : Int32) (h : mH) : Option (Int32 × mH) :=
  bd1 (gR h a0 8 0) fun x1 =>
  bd1 (aI h 0 x1 (((24 : Int32) + ((5 : Int32) * a1)) + a2)) fun x3 =>
  some (x3, h)
set_option maxRecDepth 20000 in
theorem t_M_brokenBy_0 {sc : Nat × (Nat → Int32)}  (a0 : Nat) (a1 : Int32) (a2 : Int32) (h : mH) (r : Int32) (h' : mH) (hf : f_M_brokenBy_0  a0 a1 a2 h = some (r, h')) : G sc y_M_brokenBy prog_10_method_27_code 3 (some .int) 0 0 0 [(0, .ref a0), (1, .int a1), (2, .int a2)] [] h (some (.int r)) h' := by
  unfold f_M_brokenBy_0 at hf
  refine g_aload_n (pc := 0) 0 d_M_brokenBy_0 rfl rfl ?_
  obtain ⟨x1, e2, hf⟩ := bd1_e hf
  refine g_get (pc := 1) (ci := 8) (kk := 0) d_M_brokenBy_1 rfl in_M (by decide) wd_938 (gR_spec e2) ?_
  refine g_bipush (pc := 4) (24 : Int32) d_M_brokenBy_4 (by decide) ?_
  refine g_iconst (pc := 6) (5 : Int32) d_M_brokenBy_6 (by decide) ?_
  refine g_iload_n (pc := 7) 1 d_M_brokenBy_7 rfl rfl ?_
  refine g_imul (pc := 8) d_M_brokenBy_8 ?_
  refine g_iadd (pc := 9) d_M_brokenBy_9 ?_
  refine g_iload_n (pc := 10) 2 d_M_brokenBy_10 rfl rfl ?_
  refine g_iadd (pc := 11) d_M_brokenBy_11 ?_
  obtain ⟨x3, e4, hf⟩ := bd1_e hf
  refine g_iald (pc := 12) d_M_brokenBy_12 e4 ?_
  obtain ⟨rfl, rfl⟩ := ret2 hf
  exact g_iret (pc := 13) rfl d_M_brokenBy_13
def f_M_brokenBy (a0 : Nat) (a1 : Int32) (a2 : Int32) (h : mH) : Option (Int32 × mH) := f_M_brokenBy_0 a0 a1 a2 h
theorem c_M_brokenBy {sc : Nat × (Nat → Int32)} {a0 : Nat} {a1 : Int32} {a2 : Int32} {h : mH} {r : Int32} {h' : mH} (hf : f_M_brokenBy a0 a1 a2 h = some (r, h')) : MM sc y_M_brokenBy prog_10_method_27_code 3 (some .int) 0 0 [.ref a0, .int a1, .int a2] h (some (.int r)) h' :=
  mm_of_G (by decide) (Nat.le_of_ble_eq_true rfl) (t_M_brokenBy_0 _ _ _ _ _ _ hf)
/-! M needOf (I)I -/
set_option maxRecDepth 100000 in
theorem dd_M_needOf_0 : (decode prog_10_method_29_code 0 = .ok (.aload_n 0, 1)) ∧ (decode prog_10_method_29_code 1 = .ok (.iload_n 1, 1)) ∧ (decode prog_10_method_29_code 2 = .ok (.invokevirtual 191, 3)) ∧ (decode prog_10_method_29_code 5 = .ok (.ifCond .eq 14, 3)) ∧ (decode prog_10_method_29_code 8 = .ok (.aload_n 0, 1)) ∧ (decode prog_10_method_29_code 9 = .ok (.getfield 7, 3)) ∧ (decode prog_10_method_29_code 12 = .ok (.iconst 0, 1)) ∧ (decode prog_10_method_29_code 13 = .ok (.iload_n 1, 1)) ∧ (decode prog_10_method_29_code 14 = .ok (.iadd, 1)) ∧ (decode prog_10_method_29_code 15 = .ok (.iaload, 1)) ∧ (decode prog_10_method_29_code 16 = .ok (.goto 4, 3)) ∧ (decode prog_10_method_29_code 19 = .ok (.iconst 0, 1)) ∧ (decode prog_10_method_29_code 20 = .ok (.istore_n 2, 1)) ∧ (decode prog_10_method_29_code 21 = .ok (.iconst 0, 1)) ∧ (decode prog_10_method_29_code 22 = .ok (.istore_n 3, 1)) ∧ (decode prog_10_method_29_code 23 = .ok (.iload_n 3, 1)) ∧ (decode prog_10_method_29_code 24 = .ok (.aload_n 0, 1)) ∧ (decode prog_10_method_29_code 25 = .ok (.getfield 109, 3)) ∧ (decode prog_10_method_29_code 28 = .ok (.if_icmp .ge 18, 3)) ∧ (decode prog_10_method_29_code 31 = .ok (.iload_n 2, 1)) ∧ (decode prog_10_method_29_code 32 = .ok (.aload_n 0, 1)) ∧ (decode prog_10_method_29_code 33 = .ok (.iload_n 3, 1)) ∧ (decode prog_10_method_29_code 34 = .ok (.iload_n 1, 1)) ∧ (decode prog_10_method_29_code 35 = .ok (.invokevirtual 188, 3)) := by
  have h : List.drop 0 prog_10_method_29_code.data.toList = 0x2a :: _ := rfl
  refine ⟨zq_k_n 42 h rfl (zq_o_42 _), ?_⟩
  replace h := zq_nx1 (q := 1) h rfl
  refine ⟨zq_k_n 27 h rfl (zq_o_27 _), ?_⟩
  replace h := zq_nx1 (q := 2) h rfl
  refine ⟨zq_k_u2 182 (fun z => .invokevirtual z) 191 h rfl (zq_o_182 _) (by decide +kernel), ?_⟩
  replace h := zq_nx3 (q := 5) h rfl
  refine ⟨zq_k_s2 153 (fun z => .ifCond .eq z) 14 h rfl (zq_o_153 _) (by decide +kernel), ?_⟩
  replace h := zq_nx3 (q := 8) h rfl
  refine ⟨zq_k_n 42 h rfl (zq_o_42 _), ?_⟩
  replace h := zq_nx1 (q := 9) h rfl
  refine ⟨zq_k_u2 180 (fun z => .getfield z) 7 h rfl (zq_o_180 _) (by decide +kernel), ?_⟩
  replace h := zq_nx3 (q := 12) h rfl
  refine ⟨zq_k_n 3 h rfl (zq_o_3 _), ?_⟩
  replace h := zq_nx1 (q := 13) h rfl
  refine ⟨zq_k_n 27 h rfl (zq_o_27 _), ?_⟩
  replace h := zq_nx1 (q := 14) h rfl
  refine ⟨zq_k_n 96 h rfl (zq_o_96 _), ?_⟩
  replace h := zq_nx1 (q := 15) h rfl
  refine ⟨zq_k_n 46 h rfl (zq_o_46 _), ?_⟩
  replace h := zq_nx1 (q := 16) h rfl
  refine ⟨zq_k_s2 167 (fun z => .goto z) 4 h rfl (zq_o_167 _) (by decide +kernel), ?_⟩
  replace h := zq_nx3 (q := 19) h rfl
  refine ⟨zq_k_n 3 h rfl (zq_o_3 _), ?_⟩
  replace h := zq_nx1 (q := 20) h rfl
  refine ⟨zq_k_n 61 h rfl (zq_o_61 _), ?_⟩
  replace h := zq_nx1 (q := 21) h rfl
  refine ⟨zq_k_n 3 h rfl (zq_o_3 _), ?_⟩
  replace h := zq_nx1 (q := 22) h rfl
  refine ⟨zq_k_n 62 h rfl (zq_o_62 _), ?_⟩
  replace h := zq_nx1 (q := 23) h rfl
  refine ⟨zq_k_n 29 h rfl (zq_o_29 _), ?_⟩
  replace h := zq_nx1 (q := 24) h rfl
  refine ⟨zq_k_n 42 h rfl (zq_o_42 _), ?_⟩
  replace h := zq_nx1 (q := 25) h rfl
  refine ⟨zq_k_u2 180 (fun z => .getfield z) 109 h rfl (zq_o_180 _) (by decide +kernel), ?_⟩
  replace h := zq_nx3 (q := 28) h rfl
  refine ⟨zq_k_s2 162 (fun z => .if_icmp .ge z) 18 h rfl (zq_o_162 _) (by decide +kernel), ?_⟩
  replace h := zq_nx3 (q := 31) h rfl
  refine ⟨zq_k_n 28 h rfl (zq_o_28 _), ?_⟩
  replace h := zq_nx1 (q := 32) h rfl
  refine ⟨zq_k_n 42 h rfl (zq_o_42 _), ?_⟩
  replace h := zq_nx1 (q := 33) h rfl
  refine ⟨zq_k_n 29 h rfl (zq_o_29 _), ?_⟩
  replace h := zq_nx1 (q := 34) h rfl
  refine ⟨zq_k_n 27 h rfl (zq_o_27 _), ?_⟩
  replace h := zq_nx1 (q := 35) h rfl
  exact zq_k_u2 182 (fun z => .invokevirtual z) 188 h rfl (zq_o_182 _) (by decide +kernel)
theorem d_M_needOf_0 : decode prog_10_method_29_code 0 = .ok (.aload_n 0, 1) := dd_M_needOf_0.1
theorem d_M_needOf_1 : decode prog_10_method_29_code 1 = .ok (.iload_n 1, 1) := dd_M_needOf_0.2.1
theorem d_M_needOf_2 : decode prog_10_method_29_code 2 = .ok (.invokevirtual 191, 3) := dd_M_needOf_0.2.2.1
theorem d_M_needOf_5 : decode prog_10_method_29_code 5 = .ok (.ifCond .eq 14, 3) := dd_M_needOf_0.2.2.2.1
theorem d_M_needOf_8 : decode prog_10_method_29_code 8 = .ok (.aload_n 0, 1) := dd_M_needOf_0.2.2.2.2.1
theorem d_M_needOf_9 : decode prog_10_method_29_code 9 = .ok (.getfield 7, 3) := dd_M_needOf_0.2.2.2.2.2.1
theorem d_M_needOf_12 : decode prog_10_method_29_code 12 = .ok (.iconst 0, 1) := dd_M_needOf_0.2.2.2.2.2.2.1
theorem d_M_needOf_13 : decode prog_10_method_29_code 13 = .ok (.iload_n 1, 1) := dd_M_needOf_0.2.2.2.2.2.2.2.1
theorem d_M_needOf_14 : decode prog_10_method_29_code 14 = .ok (.iadd, 1) := dd_M_needOf_0.2.2.2.2.2.2.2.2.1
theorem d_M_needOf_15 : decode prog_10_method_29_code 15 = .ok (.iaload, 1) := dd_M_needOf_0.2.2.2.2.2.2.2.2.2.1
theorem d_M_needOf_16 : decode prog_10_method_29_code 16 = .ok (.goto 4, 3) := dd_M_needOf_0.2.2.2.2.2.2.2.2.2.2.1
theorem d_M_needOf_19 : decode prog_10_method_29_code 19 = .ok (.iconst 0, 1) := dd_M_needOf_0.2.2.2.2.2.2.2.2.2.2.2.1
theorem d_M_needOf_20 : decode prog_10_method_29_code 20 = .ok (.istore_n 2, 1) := dd_M_needOf_0.2.2.2.2.2.2.2.2.2.2.2.2.1
theorem d_M_needOf_21 : decode prog_10_method_29_code 21 = .ok (.iconst 0, 1) := dd_M_needOf_0.2.2.2.2.2.2.2.2.2.2.2.2.2.1
theorem d_M_needOf_22 : decode prog_10_method_29_code 22 = .ok (.istore_n 3, 1) := dd_M_needOf_0.2.2.2.2.2.2.2.2.2.2.2.2.2.2.1
theorem d_M_needOf_23 : decode prog_10_method_29_code 23 = .ok (.iload_n 3, 1) := dd_M_needOf_0.2.2.2.2.2.2.2.2.2.2.2.2.2.2.2.1
theorem d_M_needOf_24 : decode prog_10_method_29_code 24 = .ok (.aload_n 0, 1) := dd_M_needOf_0.2.2.2.2.2.2.2.2.2.2.2.2.2.2.2.2.1
theorem d_M_needOf_25 : decode prog_10_method_29_code 25 = .ok (.getfield 109, 3) := dd_M_needOf_0.2.2.2.2.2.2.2.2.2.2.2.2.2.2.2.2.2.1
theorem d_M_needOf_28 : decode prog_10_method_29_code 28 = .ok (.if_icmp .ge 18, 3) := dd_M_needOf_0.2.2.2.2.2.2.2.2.2.2.2.2.2.2.2.2.2.2.1
theorem d_M_needOf_31 : decode prog_10_method_29_code 31 = .ok (.iload_n 2, 1) := dd_M_needOf_0.2.2.2.2.2.2.2.2.2.2.2.2.2.2.2.2.2.2.2.1
theorem d_M_needOf_32 : decode prog_10_method_29_code 32 = .ok (.aload_n 0, 1) := dd_M_needOf_0.2.2.2.2.2.2.2.2.2.2.2.2.2.2.2.2.2.2.2.2.1
theorem d_M_needOf_33 : decode prog_10_method_29_code 33 = .ok (.iload_n 3, 1) := dd_M_needOf_0.2.2.2.2.2.2.2.2.2.2.2.2.2.2.2.2.2.2.2.2.2.1
theorem d_M_needOf_34 : decode prog_10_method_29_code 34 = .ok (.iload_n 1, 1) := dd_M_needOf_0.2.2.2.2.2.2.2.2.2.2.2.2.2.2.2.2.2.2.2.2.2.2.1
theorem d_M_needOf_35 : decode prog_10_method_29_code 35 = .ok (.invokevirtual 188, 3) := dd_M_needOf_0.2.2.2.2.2.2.2.2.2.2.2.2.2.2.2.2.2.2.2.2.2.2.2
set_option maxRecDepth 100000 in
theorem dd_M_needOf_38 : (decode prog_10_method_29_code 38 = .ok (.isub, 1)) ∧ (decode prog_10_method_29_code 39 = .ok (.istore_n 2, 1)) ∧ (decode prog_10_method_29_code 40 = .ok (.iinc 3 1, 3)) ∧ (decode prog_10_method_29_code 43 = .ok (.goto (-20), 3)) ∧ (decode prog_10_method_29_code 46 = .ok (.iload_n 2, 1)) ∧ (decode prog_10_method_29_code 47 = .ok (.ifCond .ge 7, 3)) ∧ (decode prog_10_method_29_code 50 = .ok (.iconst 0, 1)) ∧ (decode prog_10_method_29_code 51 = .ok (.goto 4, 3)) ∧ (decode prog_10_method_29_code 54 = .ok (.iload_n 2, 1)) ∧ (decode prog_10_method_29_code 55 = .ok (.ireturn, 1)) := by
  have h : List.drop 38 prog_10_method_29_code.data.toList = 0x64 :: _ := rfl
  refine ⟨zq_k_n 100 h rfl (zq_o_100 _), ?_⟩
  replace h := zq_nx1 (q := 39) h rfl
  refine ⟨zq_k_n 61 h rfl (zq_o_61 _), ?_⟩
  replace h := zq_nx1 (q := 40) h rfl
  refine ⟨zq_k_iinc 3 1 h rfl (zq_o_132 _) (by decide +kernel) (by decide +kernel), ?_⟩
  replace h := zq_nx3 (q := 43) h rfl
  refine ⟨zq_k_s2 167 (fun z => .goto z) (-20) h rfl (zq_o_167 _) (by decide +kernel), ?_⟩
  replace h := zq_nx3 (q := 46) h rfl
  refine ⟨zq_k_n 28 h rfl (zq_o_28 _), ?_⟩
  replace h := zq_nx1 (q := 47) h rfl
  refine ⟨zq_k_s2 156 (fun z => .ifCond .ge z) 7 h rfl (zq_o_156 _) (by decide +kernel), ?_⟩
  replace h := zq_nx3 (q := 50) h rfl
  refine ⟨zq_k_n 3 h rfl (zq_o_3 _), ?_⟩
  replace h := zq_nx1 (q := 51) h rfl
  refine ⟨zq_k_s2 167 (fun z => .goto z) 4 h rfl (zq_o_167 _) (by decide +kernel), ?_⟩
  replace h := zq_nx3 (q := 54) h rfl
  refine ⟨zq_k_n 28 h rfl (zq_o_28 _), ?_⟩
  replace h := zq_nx1 (q := 55) h rfl
  exact zq_k_n 172 h rfl (zq_o_172 _)
theorem d_M_needOf_38 : decode prog_10_method_29_code 38 = .ok (.isub, 1) := dd_M_needOf_38.1
theorem d_M_needOf_39 : decode prog_10_method_29_code 39 = .ok (.istore_n 2, 1) := dd_M_needOf_38.2.1
theorem d_M_needOf_40 : decode prog_10_method_29_code 40 = .ok (.iinc 3 1, 3) := dd_M_needOf_38.2.2.1
theorem d_M_needOf_43 : decode prog_10_method_29_code 43 = .ok (.goto (-20), 3) := dd_M_needOf_38.2.2.2.1
theorem d_M_needOf_46 : decode prog_10_method_29_code 46 = .ok (.iload_n 2, 1) := dd_M_needOf_38.2.2.2.2.1
theorem d_M_needOf_47 : decode prog_10_method_29_code 47 = .ok (.ifCond .ge 7, 3) := dd_M_needOf_38.2.2.2.2.2.1
theorem d_M_needOf_50 : decode prog_10_method_29_code 50 = .ok (.iconst 0, 1) := dd_M_needOf_38.2.2.2.2.2.2.1
theorem d_M_needOf_51 : decode prog_10_method_29_code 51 = .ok (.goto 4, 3) := dd_M_needOf_38.2.2.2.2.2.2.2.1
theorem d_M_needOf_54 : decode prog_10_method_29_code 54 = .ok (.iload_n 2, 1) := dd_M_needOf_38.2.2.2.2.2.2.2.2.1
theorem d_M_needOf_55 : decode prog_10_method_29_code 55 = .ok (.ireturn, 1) := dd_M_needOf_38.2.2.2.2.2.2.2.2.2
def f_M_needOf_23b (rec23 : Nat → Int32 → Int32 → Int32 → mH → Option (Int32 × mH)) (b0 : Nat) (b1 : Int32) (b2 : Int32) (b3 : Int32) (h : mH) : Option (Int32 × mH) :=
  bd1 (gI h b0 8 3) fun x11 =>
  if x11 ≤ b3 then
    if 0 ≤ b2 then
      some (b2, h)
    else
      some ((0 : Int32), h)
  else
    bd1 (kC h b0 8) fun _ =>
    bd2 (f_M_brokenBy b0 b3 b1 h) fun x18 h16 =>
    rec23 b0 b1 (b2 - x18) (b3 + (1 : Int32)) h16
set_option maxRecDepth 20000 in
theorem t_M_needOf_23b {sc : Nat × (Nat → Int32)} (rec23 : Nat → Int32 → Int32 → Int32 → mH → Option (Int32 × mH)) (hrec23 : ∀ (b0 : Nat) (b1 : Int32) (b2 : Int32) (b3 : Int32) (h : mH) (r : Int32) (h' : mH), rec23 b0 b1 b2 b3 h = some (r, h') → G sc y_M_needOf prog_10_method_29_code 4 (some .int) 1 22 23 [(0, .ref b0), (1, .int b1), (2, .int b2), (3, .int b3)] [] h (some (.int r)) h') (b0 : Nat) (b1 : Int32) (b2 : Int32) (b3 : Int32) (h : mH) (r : Int32) (h' : mH) (hf : f_M_needOf_23b rec23 b0 b1 b2 b3 h = some (r, h')) : G sc y_M_needOf prog_10_method_29_code 4 (some .int) 1 22 23 [(0, .ref b0), (1, .int b1), (2, .int b2), (3, .int b3)] [] h (some (.int r)) h' := by
  unfold f_M_needOf_23b at hf
  refine g_iload_n (pc := 23) 3 d_M_needOf_23 rfl rfl ?_
  refine g_aload_n (pc := 24) 0 d_M_needOf_24 rfl rfl ?_
  obtain ⟨x11, e12, hf⟩ := bd1_e hf
  refine g_get (pc := 25) (ci := 8) (kk := 3) d_M_needOf_25 rfl in_M (by decide) wd_941 (gI_spec e12) ?_
  refine g_icmpge (pc := 28) 46 d_M_needOf_28 (by decide) (fun c19 => ?_) (fun c19 => ?_)
  · replace hf := (if_pos c19).symm.trans hf
    refine g_iload_n (pc := 46) 2 d_M_needOf_46 rfl rfl ?_
    refine g_ifge (pc := 47) 54 d_M_needOf_47 (by decide) (fun c13 => ?_) (fun c13 => ?_)
    · replace hf := (if_pos c13).symm.trans hf
      refine g_iload_n (pc := 54) 2 d_M_needOf_54 rfl rfl ?_
      obtain ⟨rfl, rfl⟩ := ret2 hf
      exact g_iret (pc := 55) rfl d_M_needOf_55
    · replace hf := (if_neg c13).symm.trans hf
      refine g_iconst (pc := 50) (0 : Int32) d_M_needOf_50 (by decide) ?_
      refine g_goto (pc := 51) 55 d_M_needOf_51 (by decide) ?_
      obtain ⟨rfl, rfl⟩ := ret2 hf
      exact g_iret (pc := 55) rfl d_M_needOf_55
  · replace hf := (if_neg c19).symm.trans hf
    refine g_iload_n (pc := 31) 2 d_M_needOf_31 rfl rfl ?_
    refine g_aload_n (pc := 32) 0 d_M_needOf_32 rfl rfl ?_
    refine g_iload_n (pc := 33) 3 d_M_needOf_33 rfl rfl ?_
    refine g_iload_n (pc := 34) 1 d_M_needOf_34 rfl rfl ?_
    obtain ⟨u15, e14, hf⟩ := bd1_e hf
    obtain ⟨x18, h16, e17, hf⟩ := bd2_e hf
    refine g_callV (pc := 35) (ci := 8) [.int b3, .int b1] (site_of si_M_brokenBy (by decide) (by decide)) wd_1148 wd_1150 wp_47 d_M_needOf_35 rfl e14 (Nat.le_of_ble_eq_true rfl) (fun z => absurd z (by decide)) (fun z => absurd z (by decide)) (fun z => absurd z (by decide)) (c_M_brokenBy e17) rfl ?_
    refine g_st [.int x18, .int b2] rfl ?_
    refine g_isub (pc := 38) d_M_needOf_38 ?_
    refine g_istore_n (pc := 39) [(2, .int (b2 - x18)), (0, .ref b0), (1, .int b1), (3, .int b3)] d_M_needOf_39 rfl (Nat.le_of_ble_eq_true rfl) rfl ?_
    refine g_iinc (pc := 40) 3 (b3 + (1 : Int32)) [(3, .int (b3 + (1 : Int32))), (2, .int (b2 - x18)), (0, .ref b0), (1, .int b1)] d_M_needOf_40 rfl rfl (Nat.le_of_ble_eq_true rfl) rfl ?_
    refine g_goto (pc := 43) 23 d_M_needOf_43 (by decide) ?_
    refine g_lv [2, 3, 1, 0] rfl ?_
    exact hrec23 _ _ _ _ _ _ _  hf
def f_M_needOf_23  : Nat → Nat → Int32 → Int32 → Int32 → mH → Option (Int32 × mH)
  | 0 => fun _ _ _ _ _ => none
  | n + 1 => f_M_needOf_23b  (f_M_needOf_23  n)
theorem t_M_needOf_23 {sc : Nat × (Nat → Int32)}  : ∀ (n : Nat) (b0 : Nat) (b1 : Int32) (b2 : Int32) (b3 : Int32) (h : mH) (r : Int32) (h' : mH) (hf : f_M_needOf_23  n b0 b1 b2 b3 h = some (r, h')), G sc y_M_needOf prog_10_method_29_code 4 (some .int) 1 22 23 [(0, .ref b0), (1, .int b1), (2, .int b2), (3, .int b3)] [] h (some (.int r)) h'
  | 0, _, _, _, _, _, _, _, hf => by cases hf
  | n + 1, _, _, _, _, _, _, _, hf => t_M_needOf_23b  (f_M_needOf_23  n) (t_M_needOf_23  n) _ _ _ _ _ _ _ hf
def f_M_needOf_20  (b0 : Nat) (b1 : Int32) (s0 : Int32) (h : mH) : Option (Int32 × mH) :=
  f_M_needOf_23  FU b0 b1 s0 (0 : Int32) h
set_option maxRecDepth 20000 in
theorem t_M_needOf_20 {sc : Nat × (Nat → Int32)}  (b0 : Nat) (b1 : Int32) (s0 : Int32) (h : mH) (r : Int32) (h' : mH) (hf : f_M_needOf_20  b0 b1 s0 h = some (r, h')) : G sc y_M_needOf prog_10_method_29_code 4 (some .int) 1 22 20 [(0, .ref b0), (1, .int b1)] [.int s0] h (some (.int r)) h' := by
  unfold f_M_needOf_20 at hf
  refine g_istore_n (pc := 20) [(2, .int s0), (0, .ref b0), (1, .int b1)] d_M_needOf_20 rfl (Nat.le_of_ble_eq_true rfl) rfl ?_
  refine g_iconst (pc := 21) (0 : Int32) d_M_needOf_21 (by decide) ?_
  refine g_istore_n (pc := 22) [(3, .int (0 : Int32)), (2, .int s0), (0, .ref b0), (1, .int b1)] d_M_needOf_22 rfl (Nat.le_of_ble_eq_true rfl) rfl ?_
  refine g_lv [2, 3, 1, 0] rfl ?_
  exact t_M_needOf_23  FU _ _ _ _ _ _ _  hf
def f_M_needOf_0  (a0 : Nat) (a1 : Int32) (h : mH) : Option (Int32 × mH) :=
  bd1 (kC h a0 8) fun _ =>
  bd2 (f_M_doesStand a0 a1 h) fun x5 h3 =>
  if x5 = 0 then
    f_M_needOf_20  a0 a1 (0 : Int32) h3
  else
    bd1 (gR h3 a0 8 0) fun x6 =>
    bd1 (aI h3 0 x6 ((0 : Int32) + a1)) fun x8 =>
    f_M_needOf_20  a0 a1 x8 h3
set_option maxRecDepth 20000 in
theorem t_M_needOf_0 {sc : Nat × (Nat → Int32)}  (a0 : Nat) (a1 : Int32) (h : mH) (r : Int32) (h' : mH) (hf : f_M_needOf_0  a0 a1 h = some (r, h')) : G sc y_M_needOf prog_10_method_29_code 4 (some .int) 1 22 0 [(0, .ref a0), (1, .int a1)] [] h (some (.int r)) h' := by
  unfold f_M_needOf_0 at hf
  refine g_aload_n (pc := 0) 0 d_M_needOf_0 rfl rfl ?_
  refine g_iload_n (pc := 1) 1 d_M_needOf_1 rfl rfl ?_
  obtain ⟨u2, e1, hf⟩ := bd1_e hf
  obtain ⟨x5, h3, e4, hf⟩ := bd2_e hf
  refine g_callV (pc := 2) (ci := 8) [.int a1] (site_of si_M_doesStand (by decide) (by decide)) wd_1144 wd_1146 wp_46 d_M_needOf_2 rfl e1 (Nat.le_of_ble_eq_true rfl) (fun z => absurd z (by decide)) (fun z => absurd z (by decide)) (fun z => absurd z (by decide)) (c_M_doesStand e4) rfl ?_
  refine g_st [.int x5] rfl ?_
  refine g_ifeq (pc := 5) 19 d_M_needOf_5 (by decide) (fun c10 => ?_) (fun c10 => ?_)
  · replace hf := (if_pos c10).symm.trans hf
    refine g_iconst (pc := 19) (0 : Int32) d_M_needOf_19 (by decide) ?_
    refine g_lv [0, 1] rfl ?_
    exact t_M_needOf_20  _ _ _ _ _ _  hf
  · replace hf := (if_neg c10).symm.trans hf
    refine g_aload_n (pc := 8) 0 d_M_needOf_8 rfl rfl ?_
    obtain ⟨x6, e7, hf⟩ := bd1_e hf
    refine g_get (pc := 9) (ci := 8) (kk := 0) d_M_needOf_9 rfl in_M (by decide) wd_938 (gR_spec e7) ?_
    refine g_iconst (pc := 12) (0 : Int32) d_M_needOf_12 (by decide) ?_
    refine g_iload_n (pc := 13) 1 d_M_needOf_13 rfl rfl ?_
    refine g_iadd (pc := 14) d_M_needOf_14 ?_
    obtain ⟨x8, e9, hf⟩ := bd1_e hf
    refine g_iald (pc := 15) d_M_needOf_15 e9 ?_
    refine g_goto (pc := 16) 20 d_M_needOf_16 (by decide) ?_
    refine g_lv [0, 1] rfl ?_
    exact t_M_needOf_20  _ _ _ _ _ _  hf
def f_M_needOf (a0 : Nat) (a1 : Int32) (h : mH) : Option (Int32 × mH) := f_M_needOf_0 a0 a1 h
theorem c_M_needOf {sc : Nat × (Nat → Int32)} {a0 : Nat} {a1 : Int32} {h : mH} {r : Int32} {h' : mH} (hf : f_M_needOf a0 a1 h = some (r, h')) : MM sc y_M_needOf prog_10_method_29_code 4 (some .int) 1 22 [.ref a0, .int a1] h (some (.int r)) h' :=
  mm_of_G (by decide) (Nat.le_of_ble_eq_true rfl) (t_M_needOf_0 _ _ _ _ _ hf)
/-! M chainOf (I)I -/
set_option maxRecDepth 100000 in
theorem dd_M_chainOf_0 : (decode prog_10_method_30_code 0 = .ok (.iconst 0, 1)) ∧ (decode prog_10_method_30_code 1 = .ok (.istore_n 2, 1)) ∧ (decode prog_10_method_30_code 2 = .ok (.iload_n 1, 1)) ∧ (decode prog_10_method_30_code 3 = .ok (.istore_n 3, 1)) ∧ (decode prog_10_method_30_code 4 = .ok (.iload_n 3, 1)) ∧ (decode prog_10_method_30_code 5 = .ok (.bipush (-4), 2)) ∧ (decode prog_10_method_30_code 7 = .ok (.if_icmp .eq 29, 3)) ∧ (decode prog_10_method_30_code 10 = .ok (.iload_n 2, 1)) ∧ (decode prog_10_method_30_code 11 = .ok (.iload_n 3, 1)) ∧ (decode prog_10_method_30_code 12 = .ok (.ishr, 1)) ∧ (decode prog_10_method_30_code 13 = .ok (.iconst 1, 1)) ∧ (decode prog_10_method_30_code 14 = .ok (.iand, 1)) ∧ (decode prog_10_method_30_code 15 = .ok (.ifCond .ne 21, 3)) ∧ (decode prog_10_method_30_code 18 = .ok (.iload_n 2, 1)) ∧ (decode prog_10_method_30_code 19 = .ok (.iconst 1, 1)) ∧ (decode prog_10_method_30_code 20 = .ok (.iload_n 3, 1)) ∧ (decode prog_10_method_30_code 21 = .ok (.ishl, 1)) ∧ (decode prog_10_method_30_code 22 = .ok (.ior, 1)) ∧ (decode prog_10_method_30_code 23 = .ok (.istore_n 2, 1)) ∧ (decode prog_10_method_30_code 24 = .ok (.aload_n 0, 1)) ∧ (decode prog_10_method_30_code 25 = .ok (.getfield 7, 3)) ∧ (decode prog_10_method_30_code 28 = .ok (.iconst 5, 1)) ∧ (decode prog_10_method_30_code 29 = .ok (.iload_n 3, 1)) ∧ (decode prog_10_method_30_code 30 = .ok (.iadd, 1)) := by
  have h : List.drop 0 prog_10_method_30_code.data.toList = 0x03 :: _ := rfl
  refine ⟨zq_k_n 3 h rfl (zq_o_3 _), ?_⟩
  replace h := zq_nx1 (q := 1) h rfl
  refine ⟨zq_k_n 61 h rfl (zq_o_61 _), ?_⟩
  replace h := zq_nx1 (q := 2) h rfl
  refine ⟨zq_k_n 27 h rfl (zq_o_27 _), ?_⟩
  replace h := zq_nx1 (q := 3) h rfl
  refine ⟨zq_k_n 62 h rfl (zq_o_62 _), ?_⟩
  replace h := zq_nx1 (q := 4) h rfl
  refine ⟨zq_k_n 29 h rfl (zq_o_29 _), ?_⟩
  replace h := zq_nx1 (q := 5) h rfl
  refine ⟨zq_k_s1 16 (fun z => .bipush z) (-4) h rfl (zq_o_16 _) (by decide +kernel), ?_⟩
  replace h := zq_nx2 (q := 7) h rfl
  refine ⟨zq_k_s2 159 (fun z => .if_icmp .eq z) 29 h rfl (zq_o_159 _) (by decide +kernel), ?_⟩
  replace h := zq_nx3 (q := 10) h rfl
  refine ⟨zq_k_n 28 h rfl (zq_o_28 _), ?_⟩
  replace h := zq_nx1 (q := 11) h rfl
  refine ⟨zq_k_n 29 h rfl (zq_o_29 _), ?_⟩
  replace h := zq_nx1 (q := 12) h rfl
  refine ⟨zq_k_n 122 h rfl (zq_o_122 _), ?_⟩
  replace h := zq_nx1 (q := 13) h rfl
  refine ⟨zq_k_n 4 h rfl (zq_o_4 _), ?_⟩
  replace h := zq_nx1 (q := 14) h rfl
  refine ⟨zq_k_n 126 h rfl (zq_o_126 _), ?_⟩
  replace h := zq_nx1 (q := 15) h rfl
  refine ⟨zq_k_s2 154 (fun z => .ifCond .ne z) 21 h rfl (zq_o_154 _) (by decide +kernel), ?_⟩
  replace h := zq_nx3 (q := 18) h rfl
  refine ⟨zq_k_n 28 h rfl (zq_o_28 _), ?_⟩
  replace h := zq_nx1 (q := 19) h rfl
  refine ⟨zq_k_n 4 h rfl (zq_o_4 _), ?_⟩
  replace h := zq_nx1 (q := 20) h rfl
  refine ⟨zq_k_n 29 h rfl (zq_o_29 _), ?_⟩
  replace h := zq_nx1 (q := 21) h rfl
  refine ⟨zq_k_n 120 h rfl (zq_o_120 _), ?_⟩
  replace h := zq_nx1 (q := 22) h rfl
  refine ⟨zq_k_n 128 h rfl (zq_o_128 _), ?_⟩
  replace h := zq_nx1 (q := 23) h rfl
  refine ⟨zq_k_n 61 h rfl (zq_o_61 _), ?_⟩
  replace h := zq_nx1 (q := 24) h rfl
  refine ⟨zq_k_n 42 h rfl (zq_o_42 _), ?_⟩
  replace h := zq_nx1 (q := 25) h rfl
  refine ⟨zq_k_u2 180 (fun z => .getfield z) 7 h rfl (zq_o_180 _) (by decide +kernel), ?_⟩
  replace h := zq_nx3 (q := 28) h rfl
  refine ⟨zq_k_n 8 h rfl (zq_o_8 _), ?_⟩
  replace h := zq_nx1 (q := 29) h rfl
  refine ⟨zq_k_n 29 h rfl (zq_o_29 _), ?_⟩
  replace h := zq_nx1 (q := 30) h rfl
  exact zq_k_n 96 h rfl (zq_o_96 _)
theorem d_M_chainOf_0 : decode prog_10_method_30_code 0 = .ok (.iconst 0, 1) := dd_M_chainOf_0.1
theorem d_M_chainOf_1 : decode prog_10_method_30_code 1 = .ok (.istore_n 2, 1) := dd_M_chainOf_0.2.1
theorem d_M_chainOf_2 : decode prog_10_method_30_code 2 = .ok (.iload_n 1, 1) := dd_M_chainOf_0.2.2.1
theorem d_M_chainOf_3 : decode prog_10_method_30_code 3 = .ok (.istore_n 3, 1) := dd_M_chainOf_0.2.2.2.1
theorem d_M_chainOf_4 : decode prog_10_method_30_code 4 = .ok (.iload_n 3, 1) := dd_M_chainOf_0.2.2.2.2.1
theorem d_M_chainOf_5 : decode prog_10_method_30_code 5 = .ok (.bipush (-4), 2) := dd_M_chainOf_0.2.2.2.2.2.1
theorem d_M_chainOf_7 : decode prog_10_method_30_code 7 = .ok (.if_icmp .eq 29, 3) := dd_M_chainOf_0.2.2.2.2.2.2.1
theorem d_M_chainOf_10 : decode prog_10_method_30_code 10 = .ok (.iload_n 2, 1) := dd_M_chainOf_0.2.2.2.2.2.2.2.1
theorem d_M_chainOf_11 : decode prog_10_method_30_code 11 = .ok (.iload_n 3, 1) := dd_M_chainOf_0.2.2.2.2.2.2.2.2.1
theorem d_M_chainOf_12 : decode prog_10_method_30_code 12 = .ok (.ishr, 1) := dd_M_chainOf_0.2.2.2.2.2.2.2.2.2.1
theorem d_M_chainOf_13 : decode prog_10_method_30_code 13 = .ok (.iconst 1, 1) := dd_M_chainOf_0.2.2.2.2.2.2.2.2.2.2.1
theorem d_M_chainOf_14 : decode prog_10_method_30_code 14 = .ok (.iand, 1) := dd_M_chainOf_0.2.2.2.2.2.2.2.2.2.2.2.1
theorem d_M_chainOf_15 : decode prog_10_method_30_code 15 = .ok (.ifCond .ne 21, 3) := dd_M_chainOf_0.2.2.2.2.2.2.2.2.2.2.2.2.1
theorem d_M_chainOf_18 : decode prog_10_method_30_code 18 = .ok (.iload_n 2, 1) := dd_M_chainOf_0.2.2.2.2.2.2.2.2.2.2.2.2.2.1
theorem d_M_chainOf_19 : decode prog_10_method_30_code 19 = .ok (.iconst 1, 1) := dd_M_chainOf_0.2.2.2.2.2.2.2.2.2.2.2.2.2.2.1
theorem d_M_chainOf_20 : decode prog_10_method_30_code 20 = .ok (.iload_n 3, 1) := dd_M_chainOf_0.2.2.2.2.2.2.2.2.2.2.2.2.2.2.2.1
theorem d_M_chainOf_21 : decode prog_10_method_30_code 21 = .ok (.ishl, 1) := dd_M_chainOf_0.2.2.2.2.2.2.2.2.2.2.2.2.2.2.2.2.1
theorem d_M_chainOf_22 : decode prog_10_method_30_code 22 = .ok (.ior, 1) := dd_M_chainOf_0.2.2.2.2.2.2.2.2.2.2.2.2.2.2.2.2.2.1
theorem d_M_chainOf_23 : decode prog_10_method_30_code 23 = .ok (.istore_n 2, 1) := dd_M_chainOf_0.2.2.2.2.2.2.2.2.2.2.2.2.2.2.2.2.2.2.1
theorem d_M_chainOf_24 : decode prog_10_method_30_code 24 = .ok (.aload_n 0, 1) := dd_M_chainOf_0.2.2.2.2.2.2.2.2.2.2.2.2.2.2.2.2.2.2.2.1
theorem d_M_chainOf_25 : decode prog_10_method_30_code 25 = .ok (.getfield 7, 3) := dd_M_chainOf_0.2.2.2.2.2.2.2.2.2.2.2.2.2.2.2.2.2.2.2.2.1
theorem d_M_chainOf_28 : decode prog_10_method_30_code 28 = .ok (.iconst 5, 1) := dd_M_chainOf_0.2.2.2.2.2.2.2.2.2.2.2.2.2.2.2.2.2.2.2.2.2.1
theorem d_M_chainOf_29 : decode prog_10_method_30_code 29 = .ok (.iload_n 3, 1) := dd_M_chainOf_0.2.2.2.2.2.2.2.2.2.2.2.2.2.2.2.2.2.2.2.2.2.2.1
theorem d_M_chainOf_30 : decode prog_10_method_30_code 30 = .ok (.iadd, 1) := dd_M_chainOf_0.2.2.2.2.2.2.2.2.2.2.2.2.2.2.2.2.2.2.2.2.2.2.2
set_option maxRecDepth 100000 in
theorem dd_M_chainOf_31 : (decode prog_10_method_30_code 31 = .ok (.iaload, 1)) ∧ (decode prog_10_method_30_code 32 = .ok (.istore_n 3, 1)) ∧ (decode prog_10_method_30_code 33 = .ok (.goto (-29), 3)) ∧ (decode prog_10_method_30_code 36 = .ok (.iload_n 2, 1)) ∧ (decode prog_10_method_30_code 37 = .ok (.ireturn, 1)) := by
  have h : List.drop 31 prog_10_method_30_code.data.toList = 0x2e :: _ := rfl
  refine ⟨zq_k_n 46 h rfl (zq_o_46 _), ?_⟩
  replace h := zq_nx1 (q := 32) h rfl
  refine ⟨zq_k_n 62 h rfl (zq_o_62 _), ?_⟩
  replace h := zq_nx1 (q := 33) h rfl
  refine ⟨zq_k_s2 167 (fun z => .goto z) (-29) h rfl (zq_o_167 _) (by decide +kernel), ?_⟩
  replace h := zq_nx3 (q := 36) h rfl
  refine ⟨zq_k_n 28 h rfl (zq_o_28 _), ?_⟩
  replace h := zq_nx1 (q := 37) h rfl
  exact zq_k_n 172 h rfl (zq_o_172 _)
theorem d_M_chainOf_31 : decode prog_10_method_30_code 31 = .ok (.iaload, 1) := dd_M_chainOf_31.1
theorem d_M_chainOf_32 : decode prog_10_method_30_code 32 = .ok (.istore_n 3, 1) := dd_M_chainOf_31.2.1
theorem d_M_chainOf_33 : decode prog_10_method_30_code 33 = .ok (.goto (-29), 3) := dd_M_chainOf_31.2.2.1
theorem d_M_chainOf_36 : decode prog_10_method_30_code 36 = .ok (.iload_n 2, 1) := dd_M_chainOf_31.2.2.2.1
theorem d_M_chainOf_37 : decode prog_10_method_30_code 37 = .ok (.ireturn, 1) := dd_M_chainOf_31.2.2.2.2
def f_M_chainOf_36  (b2 : Int32) (h : mH) : Option (Int32 × mH) :=
  some (b2, h)
set_option maxRecDepth 20000 in
theorem t_M_chainOf_36 {sc : Nat × (Nat → Int32)}  (b2 : Int32) (h : mH) (r : Int32) (h' : mH) (hf : f_M_chainOf_36  b2 h = some (r, h')) : G sc y_M_chainOf prog_10_method_30_code 4 (some .int) 0 0 36 [(2, .int b2)] [] h (some (.int r)) h' := by
  unfold f_M_chainOf_36 at hf
  refine g_iload_n (pc := 36) 0 d_M_chainOf_36 rfl rfl ?_
  obtain ⟨rfl, rfl⟩ := ret2 hf
  exact g_iret (pc := 37) rfl d_M_chainOf_37
def f_M_chainOf_4b (rec4 : Nat → Int32 → Int32 → mH → Option (Int32 × mH)) (b0 : Nat) (b2 : Int32) (b3 : Int32) (h : mH) : Option (Int32 × mH) :=
  if b3 = ((-4) : Int32) then
    f_M_chainOf_36  b2 h
  else
    if ((b2 >>> (b3 &&& 31)) &&& (1 : Int32)) = 0 then
      bd1 (gR h b0 8 0) fun x1 =>
      bd1 (aI h 0 x1 ((5 : Int32) + b3)) fun x3 =>
      rec4 b0 (b2 ||| ((1 : Int32) <<< (b3 &&& 31))) x3 h
    else
      f_M_chainOf_36  b2 h
set_option maxRecDepth 20000 in
theorem t_M_chainOf_4b {sc : Nat × (Nat → Int32)} (rec4 : Nat → Int32 → Int32 → mH → Option (Int32 × mH)) (hrec4 : ∀ (b0 : Nat) (b2 : Int32) (b3 : Int32) (h : mH) (r : Int32) (h' : mH), rec4 b0 b2 b3 h = some (r, h') → G sc y_M_chainOf prog_10_method_30_code 4 (some .int) 0 0 4 [(0, .ref b0), (2, .int b2), (3, .int b3)] [] h (some (.int r)) h') (b0 : Nat) (b2 : Int32) (b3 : Int32) (h : mH) (r : Int32) (h' : mH) (hf : f_M_chainOf_4b rec4 b0 b2 b3 h = some (r, h')) : G sc y_M_chainOf prog_10_method_30_code 4 (some .int) 0 0 4 [(0, .ref b0), (2, .int b2), (3, .int b3)] [] h (some (.int r)) h' := by
  unfold f_M_chainOf_4b at hf
  refine g_iload_n (pc := 4) 2 d_M_chainOf_4 rfl rfl ?_
  refine g_bipush (pc := 5) ((-4) : Int32) d_M_chainOf_5 (by decide) ?_
  refine g_icmpeq (pc := 7) 36 d_M_chainOf_7 (by decide) (fun c6 => ?_) (fun c6 => ?_)
  · replace hf := (if_pos c6).symm.trans hf
    refine g_lv [1] rfl ?_
    exact t_M_chainOf_36  _ _ _ _  hf
  · replace hf := (if_neg c6).symm.trans hf
    refine g_iload_n (pc := 10) 1 d_M_chainOf_10 rfl rfl ?_
    refine g_iload_n (pc := 11) 2 d_M_chainOf_11 rfl rfl ?_
    refine g_ishr (pc := 12) d_M_chainOf_12 ?_
    refine g_iconst (pc := 13) (1 : Int32) d_M_chainOf_13 (by decide) ?_
    refine g_iand (pc := 14) d_M_chainOf_14 ?_
    refine g_ifne (pc := 15) 36 d_M_chainOf_15 (by decide) (fun c5 => ?_) (fun c5 => ?_)
    · replace hf := (if_neg c5).symm.trans hf
      refine g_lv [1] rfl ?_
      exact t_M_chainOf_36  _ _ _ _  hf
    · replace hf := (if_pos c5).symm.trans hf
      refine g_iload_n (pc := 18) 1 d_M_chainOf_18 rfl rfl ?_
      refine g_iconst (pc := 19) (1 : Int32) d_M_chainOf_19 (by decide) ?_
      refine g_iload_n (pc := 20) 2 d_M_chainOf_20 rfl rfl ?_
      refine g_ishl (pc := 21) d_M_chainOf_21 ?_
      refine g_ior (pc := 22) d_M_chainOf_22 ?_
      refine g_istore_n (pc := 23) [(2, .int (b2 ||| ((1 : Int32) <<< (b3 &&& 31)))), (0, .ref b0), (3, .int b3)] d_M_chainOf_23 rfl (Nat.le_of_ble_eq_true rfl) rfl ?_
      refine g_aload_n (pc := 24) 1 d_M_chainOf_24 rfl rfl ?_
      obtain ⟨x1, e2, hf⟩ := bd1_e hf
      refine g_get (pc := 25) (ci := 8) (kk := 0) d_M_chainOf_25 rfl in_M (by decide) wd_938 (gR_spec e2) ?_
      refine g_iconst (pc := 28) (5 : Int32) d_M_chainOf_28 (by decide) ?_
      refine g_iload_n (pc := 29) 2 d_M_chainOf_29 rfl rfl ?_
      refine g_iadd (pc := 30) d_M_chainOf_30 ?_
      obtain ⟨x3, e4, hf⟩ := bd1_e hf
      refine g_iald (pc := 31) d_M_chainOf_31 e4 ?_
      refine g_istore_n (pc := 32) [(3, .int x3), (2, .int (b2 ||| ((1 : Int32) <<< (b3 &&& 31)))), (0, .ref b0)] d_M_chainOf_32 rfl (Nat.le_of_ble_eq_true rfl) rfl ?_
      refine g_goto (pc := 33) 4 d_M_chainOf_33 (by decide) ?_
      refine g_lv [2, 1, 0] rfl ?_
      exact hrec4 _ _ _ _ _ _  hf
def f_M_chainOf_4  : Nat → Nat → Int32 → Int32 → mH → Option (Int32 × mH)
  | 0 => fun _ _ _ _ => none
  | n + 1 => f_M_chainOf_4b  (f_M_chainOf_4  n)
theorem t_M_chainOf_4 {sc : Nat × (Nat → Int32)}  : ∀ (n : Nat) (b0 : Nat) (b2 : Int32) (b3 : Int32) (h : mH) (r : Int32) (h' : mH) (hf : f_M_chainOf_4  n b0 b2 b3 h = some (r, h')), G sc y_M_chainOf prog_10_method_30_code 4 (some .int) 0 0 4 [(0, .ref b0), (2, .int b2), (3, .int b3)] [] h (some (.int r)) h'
  | 0, _, _, _, _, _, _, hf => by cases hf
  | n + 1, _, _, _, _, _, _, hf => t_M_chainOf_4b  (f_M_chainOf_4  n) (t_M_chainOf_4  n) _ _ _ _ _ _ hf
def f_M_chainOf_0  (a0 : Nat) (a1 : Int32) (h : mH) : Option (Int32 × mH) :=
  f_M_chainOf_4  FU a0 (0 : Int32) a1 h
set_option maxRecDepth 20000 in
theorem t_M_chainOf_0 {sc : Nat × (Nat → Int32)}  (a0 : Nat) (a1 : Int32) (h : mH) (r : Int32) (h' : mH) (hf : f_M_chainOf_0  a0 a1 h = some (r, h')) : G sc y_M_chainOf prog_10_method_30_code 4 (some .int) 0 0 0 [(0, .ref a0), (1, .int a1)] [] h (some (.int r)) h' := by
  unfold f_M_chainOf_0 at hf
  refine g_iconst (pc := 0) (0 : Int32) d_M_chainOf_0 (by decide) ?_
  refine g_istore_n (pc := 1) [(2, .int (0 : Int32)), (0, .ref a0), (1, .int a1)] d_M_chainOf_1 rfl (Nat.le_of_ble_eq_true rfl) rfl ?_
  refine g_iload_n (pc := 2) 2 d_M_chainOf_2 rfl rfl ?_
  refine g_istore_n (pc := 3) [(3, .int a1), (2, .int (0 : Int32)), (0, .ref a0), (1, .int a1)] d_M_chainOf_3 rfl (Nat.le_of_ble_eq_true rfl) rfl ?_
  refine g_lv [2, 1, 0] rfl ?_
  exact t_M_chainOf_4  FU _ _ _ _ _ _  hf
def f_M_chainOf (a0 : Nat) (a1 : Int32) (h : mH) : Option (Int32 × mH) := f_M_chainOf_0 a0 a1 h
theorem c_M_chainOf {sc : Nat × (Nat → Int32)} {a0 : Nat} {a1 : Int32} {h : mH} {r : Int32} {h' : mH} (hf : f_M_chainOf a0 a1 h = some (r, h')) : MM sc y_M_chainOf prog_10_method_30_code 4 (some .int) 0 0 [.ref a0, .int a1] h (some (.int r)) h' :=
  mm_of_G (by decide) (Nat.le_of_ble_eq_true rfl) (t_M_chainOf_0 _ _ _ _ _ hf)
/-! M law (II)I -/
set_option maxRecDepth 100000 in
theorem dd_M_law_0 : (decode prog_10_method_36_code 0 = .ok (.aload_n 0, 1)) ∧ (decode prog_10_method_36_code 1 = .ok (.iload_n 1, 1)) ∧ (decode prog_10_method_36_code 2 = .ok (.invokevirtual 210, 3)) ∧ (decode prog_10_method_36_code 5 = .ok (.ifCond .ne 5, 3)) ∧ (decode prog_10_method_36_code 8 = .ok (.iconst (-1), 1)) ∧ (decode prog_10_method_36_code 9 = .ok (.ireturn, 1)) ∧ (decode prog_10_method_36_code 10 = .ok (.iload_n 2, 1)) ∧ (decode prog_10_method_36_code 11 = .ok (.tableswitch 92 0 6 #[41, 50, 57, 64, 71, 80, 86], 41)) ∧ (decode prog_10_method_36_code 52 = .ok (.aload_n 0, 1)) ∧ (decode prog_10_method_36_code 53 = .ok (.getfield 7, 3)) ∧ (decode prog_10_method_36_code 56 = .ok (.iconst 0, 1)) ∧ (decode prog_10_method_36_code 57 = .ok (.iload_n 1, 1)) ∧ (decode prog_10_method_36_code 58 = .ok (.iadd, 1)) ∧ (decode prog_10_method_36_code 59 = .ok (.iaload, 1)) ∧ (decode prog_10_method_36_code 60 = .ok (.ireturn, 1)) ∧ (decode prog_10_method_36_code 61 = .ok (.aload_n 0, 1)) ∧ (decode prog_10_method_36_code 62 = .ok (.getfield 17, 3)) ∧ (decode prog_10_method_36_code 65 = .ok (.iload_n 1, 1)) ∧ (decode prog_10_method_36_code 66 = .ok (.iaload, 1)) ∧ (decode prog_10_method_36_code 67 = .ok (.ireturn, 1)) ∧ (decode prog_10_method_36_code 68 = .ok (.aload_n 0, 1)) ∧ (decode prog_10_method_36_code 69 = .ok (.getfield 20, 3)) ∧ (decode prog_10_method_36_code 72 = .ok (.iload_n 1, 1)) ∧ (decode prog_10_method_36_code 73 = .ok (.iaload, 1)) := by
  have h : List.drop 0 prog_10_method_36_code.data.toList = 0x2a :: _ := rfl
  refine ⟨zq_k_n 42 h rfl (zq_o_42 _), ?_⟩
  replace h := zq_nx1 (q := 1) h rfl
  refine ⟨zq_k_n 27 h rfl (zq_o_27 _), ?_⟩
  replace h := zq_nx1 (q := 2) h rfl
  refine ⟨zq_k_u2 182 (fun z => .invokevirtual z) 210 h rfl (zq_o_182 _) (by decide +kernel), ?_⟩
  replace h := zq_nx3 (q := 5) h rfl
  refine ⟨zq_k_s2 154 (fun z => .ifCond .ne z) 5 h rfl (zq_o_154 _) (by decide +kernel), ?_⟩
  replace h := zq_nx3 (q := 8) h rfl
  refine ⟨zq_k_n 2 h rfl (zq_o_2 _), ?_⟩
  replace h := zq_nx1 (q := 9) h rfl
  refine ⟨zq_k_n 172 h rfl (zq_o_172 _), ?_⟩
  replace h := zq_nx1 (q := 10) h rfl
  refine ⟨zq_k_n 28 h rfl (zq_o_28 _), ?_⟩
  replace h := zq_nx1 (q := 11) h rfl
  refine ⟨by decide +kernel, ?_⟩
  have h : List.drop 52 prog_10_method_36_code.data.toList = 0x2a :: _ := rfl
  refine ⟨zq_k_n 42 h rfl (zq_o_42 _), ?_⟩
  replace h := zq_nx1 (q := 53) h rfl
  refine ⟨zq_k_u2 180 (fun z => .getfield z) 7 h rfl (zq_o_180 _) (by decide +kernel), ?_⟩
  replace h := zq_nx3 (q := 56) h rfl
  refine ⟨zq_k_n 3 h rfl (zq_o_3 _), ?_⟩
  replace h := zq_nx1 (q := 57) h rfl
  refine ⟨zq_k_n 27 h rfl (zq_o_27 _), ?_⟩
  replace h := zq_nx1 (q := 58) h rfl
  refine ⟨zq_k_n 96 h rfl (zq_o_96 _), ?_⟩
  replace h := zq_nx1 (q := 59) h rfl
  refine ⟨zq_k_n 46 h rfl (zq_o_46 _), ?_⟩
  replace h := zq_nx1 (q := 60) h rfl
  refine ⟨zq_k_n 172 h rfl (zq_o_172 _), ?_⟩
  replace h := zq_nx1 (q := 61) h rfl
  refine ⟨zq_k_n 42 h rfl (zq_o_42 _), ?_⟩
  replace h := zq_nx1 (q := 62) h rfl
  refine ⟨zq_k_u2 180 (fun z => .getfield z) 17 h rfl (zq_o_180 _) (by decide +kernel), ?_⟩
  replace h := zq_nx3 (q := 65) h rfl
  refine ⟨zq_k_n 27 h rfl (zq_o_27 _), ?_⟩
  replace h := zq_nx1 (q := 66) h rfl
  refine ⟨zq_k_n 46 h rfl (zq_o_46 _), ?_⟩
  replace h := zq_nx1 (q := 67) h rfl
  refine ⟨zq_k_n 172 h rfl (zq_o_172 _), ?_⟩
  replace h := zq_nx1 (q := 68) h rfl
  refine ⟨zq_k_n 42 h rfl (zq_o_42 _), ?_⟩
  replace h := zq_nx1 (q := 69) h rfl
  refine ⟨zq_k_u2 180 (fun z => .getfield z) 20 h rfl (zq_o_180 _) (by decide +kernel), ?_⟩
  replace h := zq_nx3 (q := 72) h rfl
  refine ⟨zq_k_n 27 h rfl (zq_o_27 _), ?_⟩
  replace h := zq_nx1 (q := 73) h rfl
  exact zq_k_n 46 h rfl (zq_o_46 _)
theorem d_M_law_0 : decode prog_10_method_36_code 0 = .ok (.aload_n 0, 1) := dd_M_law_0.1
theorem d_M_law_1 : decode prog_10_method_36_code 1 = .ok (.iload_n 1, 1) := dd_M_law_0.2.1
theorem d_M_law_2 : decode prog_10_method_36_code 2 = .ok (.invokevirtual 210, 3) := dd_M_law_0.2.2.1
theorem d_M_law_5 : decode prog_10_method_36_code 5 = .ok (.ifCond .ne 5, 3) := dd_M_law_0.2.2.2.1
theorem d_M_law_8 : decode prog_10_method_36_code 8 = .ok (.iconst (-1), 1) := dd_M_law_0.2.2.2.2.1
theorem d_M_law_9 : decode prog_10_method_36_code 9 = .ok (.ireturn, 1) := dd_M_law_0.2.2.2.2.2.1
theorem d_M_law_10 : decode prog_10_method_36_code 10 = .ok (.iload_n 2, 1) := dd_M_law_0.2.2.2.2.2.2.1
theorem d_M_law_11 : decode prog_10_method_36_code 11 = .ok (.tableswitch 92 0 6 #[41, 50, 57, 64, 71, 80, 86], 41) := dd_M_law_0.2.2.2.2.2.2.2.1
theorem d_M_law_52 : decode prog_10_method_36_code 52 = .ok (.aload_n 0, 1) := dd_M_law_0.2.2.2.2.2.2.2.2.1
theorem d_M_law_53 : decode prog_10_method_36_code 53 = .ok (.getfield 7, 3) := dd_M_law_0.2.2.2.2.2.2.2.2.2.1
theorem d_M_law_56 : decode prog_10_method_36_code 56 = .ok (.iconst 0, 1) := dd_M_law_0.2.2.2.2.2.2.2.2.2.2.1
theorem d_M_law_57 : decode prog_10_method_36_code 57 = .ok (.iload_n 1, 1) := dd_M_law_0.2.2.2.2.2.2.2.2.2.2.2.1
theorem d_M_law_58 : decode prog_10_method_36_code 58 = .ok (.iadd, 1) := dd_M_law_0.2.2.2.2.2.2.2.2.2.2.2.2.1
theorem d_M_law_59 : decode prog_10_method_36_code 59 = .ok (.iaload, 1) := dd_M_law_0.2.2.2.2.2.2.2.2.2.2.2.2.2.1
theorem d_M_law_60 : decode prog_10_method_36_code 60 = .ok (.ireturn, 1) := dd_M_law_0.2.2.2.2.2.2.2.2.2.2.2.2.2.2.1
theorem d_M_law_61 : decode prog_10_method_36_code 61 = .ok (.aload_n 0, 1) := dd_M_law_0.2.2.2.2.2.2.2.2.2.2.2.2.2.2.2.1
theorem d_M_law_62 : decode prog_10_method_36_code 62 = .ok (.getfield 17, 3) := dd_M_law_0.2.2.2.2.2.2.2.2.2.2.2.2.2.2.2.2.1
theorem d_M_law_65 : decode prog_10_method_36_code 65 = .ok (.iload_n 1, 1) := dd_M_law_0.2.2.2.2.2.2.2.2.2.2.2.2.2.2.2.2.2.1
theorem d_M_law_66 : decode prog_10_method_36_code 66 = .ok (.iaload, 1) := dd_M_law_0.2.2.2.2.2.2.2.2.2.2.2.2.2.2.2.2.2.2.1
theorem d_M_law_67 : decode prog_10_method_36_code 67 = .ok (.ireturn, 1) := dd_M_law_0.2.2.2.2.2.2.2.2.2.2.2.2.2.2.2.2.2.2.2.1
theorem d_M_law_68 : decode prog_10_method_36_code 68 = .ok (.aload_n 0, 1) := dd_M_law_0.2.2.2.2.2.2.2.2.2.2.2.2.2.2.2.2.2.2.2.2.1
theorem d_M_law_69 : decode prog_10_method_36_code 69 = .ok (.getfield 20, 3) := dd_M_law_0.2.2.2.2.2.2.2.2.2.2.2.2.2.2.2.2.2.2.2.2.2.1
theorem d_M_law_72 : decode prog_10_method_36_code 72 = .ok (.iload_n 1, 1) := dd_M_law_0.2.2.2.2.2.2.2.2.2.2.2.2.2.2.2.2.2.2.2.2.2.2.1
theorem d_M_law_73 : decode prog_10_method_36_code 73 = .ok (.iaload, 1) := dd_M_law_0.2.2.2.2.2.2.2.2.2.2.2.2.2.2.2.2.2.2.2.2.2.2.2
set_option maxRecDepth 100000 in
theorem dd_M_law_74 : (decode prog_10_method_36_code 74 = .ok (.ireturn, 1)) ∧ (decode prog_10_method_36_code 75 = .ok (.aload_n 0, 1)) ∧ (decode prog_10_method_36_code 76 = .ok (.getfield 23, 3)) ∧ (decode prog_10_method_36_code 79 = .ok (.iload_n 1, 1)) ∧ (decode prog_10_method_36_code 80 = .ok (.iaload, 1)) ∧ (decode prog_10_method_36_code 81 = .ok (.ireturn, 1)) ∧ (decode prog_10_method_36_code 82 = .ok (.aload_n 0, 1)) ∧ (decode prog_10_method_36_code 83 = .ok (.getfield 7, 3)) ∧ (decode prog_10_method_36_code 86 = .ok (.iconst 5, 1)) ∧ (decode prog_10_method_36_code 87 = .ok (.iload_n 1, 1)) ∧ (decode prog_10_method_36_code 88 = .ok (.iadd, 1)) ∧ (decode prog_10_method_36_code 89 = .ok (.iaload, 1)) ∧ (decode prog_10_method_36_code 90 = .ok (.ireturn, 1)) ∧ (decode prog_10_method_36_code 91 = .ok (.aload_n 0, 1)) ∧ (decode prog_10_method_36_code 92 = .ok (.iload_n 1, 1)) ∧ (decode prog_10_method_36_code 93 = .ok (.invokevirtual 204, 3)) ∧ (decode prog_10_method_36_code 96 = .ok (.ireturn, 1)) ∧ (decode prog_10_method_36_code 97 = .ok (.aload_n 0, 1)) ∧ (decode prog_10_method_36_code 98 = .ok (.iload_n 1, 1)) ∧ (decode prog_10_method_36_code 99 = .ok (.invokevirtual 207, 3)) ∧ (decode prog_10_method_36_code 102 = .ok (.ireturn, 1)) ∧ (decode prog_10_method_36_code 103 = .ok (.iconst (-1), 1)) ∧ (decode prog_10_method_36_code 104 = .ok (.ireturn, 1)) := by
  have h : List.drop 74 prog_10_method_36_code.data.toList = 0xac :: _ := rfl
  refine ⟨zq_k_n 172 h rfl (zq_o_172 _), ?_⟩
  replace h := zq_nx1 (q := 75) h rfl
  refine ⟨zq_k_n 42 h rfl (zq_o_42 _), ?_⟩
  replace h := zq_nx1 (q := 76) h rfl
  refine ⟨zq_k_u2 180 (fun z => .getfield z) 23 h rfl (zq_o_180 _) (by decide +kernel), ?_⟩
  replace h := zq_nx3 (q := 79) h rfl
  refine ⟨zq_k_n 27 h rfl (zq_o_27 _), ?_⟩
  replace h := zq_nx1 (q := 80) h rfl
  refine ⟨zq_k_n 46 h rfl (zq_o_46 _), ?_⟩
  replace h := zq_nx1 (q := 81) h rfl
  refine ⟨zq_k_n 172 h rfl (zq_o_172 _), ?_⟩
  replace h := zq_nx1 (q := 82) h rfl
  refine ⟨zq_k_n 42 h rfl (zq_o_42 _), ?_⟩
  replace h := zq_nx1 (q := 83) h rfl
  refine ⟨zq_k_u2 180 (fun z => .getfield z) 7 h rfl (zq_o_180 _) (by decide +kernel), ?_⟩
  replace h := zq_nx3 (q := 86) h rfl
  refine ⟨zq_k_n 8 h rfl (zq_o_8 _), ?_⟩
  replace h := zq_nx1 (q := 87) h rfl
  refine ⟨zq_k_n 27 h rfl (zq_o_27 _), ?_⟩
  replace h := zq_nx1 (q := 88) h rfl
  refine ⟨zq_k_n 96 h rfl (zq_o_96 _), ?_⟩
  replace h := zq_nx1 (q := 89) h rfl
  refine ⟨zq_k_n 46 h rfl (zq_o_46 _), ?_⟩
  replace h := zq_nx1 (q := 90) h rfl
  refine ⟨zq_k_n 172 h rfl (zq_o_172 _), ?_⟩
  replace h := zq_nx1 (q := 91) h rfl
  refine ⟨zq_k_n 42 h rfl (zq_o_42 _), ?_⟩
  replace h := zq_nx1 (q := 92) h rfl
  refine ⟨zq_k_n 27 h rfl (zq_o_27 _), ?_⟩
  replace h := zq_nx1 (q := 93) h rfl
  refine ⟨zq_k_u2 182 (fun z => .invokevirtual z) 204 h rfl (zq_o_182 _) (by decide +kernel), ?_⟩
  replace h := zq_nx3 (q := 96) h rfl
  refine ⟨zq_k_n 172 h rfl (zq_o_172 _), ?_⟩
  replace h := zq_nx1 (q := 97) h rfl
  refine ⟨zq_k_n 42 h rfl (zq_o_42 _), ?_⟩
  replace h := zq_nx1 (q := 98) h rfl
  refine ⟨zq_k_n 27 h rfl (zq_o_27 _), ?_⟩
  replace h := zq_nx1 (q := 99) h rfl
  refine ⟨zq_k_u2 182 (fun z => .invokevirtual z) 207 h rfl (zq_o_182 _) (by decide +kernel), ?_⟩
  replace h := zq_nx3 (q := 102) h rfl
  refine ⟨zq_k_n 172 h rfl (zq_o_172 _), ?_⟩
  replace h := zq_nx1 (q := 103) h rfl
  refine ⟨zq_k_n 2 h rfl (zq_o_2 _), ?_⟩
  replace h := zq_nx1 (q := 104) h rfl
  exact zq_k_n 172 h rfl (zq_o_172 _)
theorem d_M_law_74 : decode prog_10_method_36_code 74 = .ok (.ireturn, 1) := dd_M_law_74.1
theorem d_M_law_75 : decode prog_10_method_36_code 75 = .ok (.aload_n 0, 1) := dd_M_law_74.2.1
theorem d_M_law_76 : decode prog_10_method_36_code 76 = .ok (.getfield 23, 3) := dd_M_law_74.2.2.1
theorem d_M_law_79 : decode prog_10_method_36_code 79 = .ok (.iload_n 1, 1) := dd_M_law_74.2.2.2.1
theorem d_M_law_80 : decode prog_10_method_36_code 80 = .ok (.iaload, 1) := dd_M_law_74.2.2.2.2.1
theorem d_M_law_81 : decode prog_10_method_36_code 81 = .ok (.ireturn, 1) := dd_M_law_74.2.2.2.2.2.1
theorem d_M_law_82 : decode prog_10_method_36_code 82 = .ok (.aload_n 0, 1) := dd_M_law_74.2.2.2.2.2.2.1
theorem d_M_law_83 : decode prog_10_method_36_code 83 = .ok (.getfield 7, 3) := dd_M_law_74.2.2.2.2.2.2.2.1
theorem d_M_law_86 : decode prog_10_method_36_code 86 = .ok (.iconst 5, 1) := dd_M_law_74.2.2.2.2.2.2.2.2.1
theorem d_M_law_87 : decode prog_10_method_36_code 87 = .ok (.iload_n 1, 1) := dd_M_law_74.2.2.2.2.2.2.2.2.2.1
theorem d_M_law_88 : decode prog_10_method_36_code 88 = .ok (.iadd, 1) := dd_M_law_74.2.2.2.2.2.2.2.2.2.2.1
theorem d_M_law_89 : decode prog_10_method_36_code 89 = .ok (.iaload, 1) := dd_M_law_74.2.2.2.2.2.2.2.2.2.2.2.1
theorem d_M_law_90 : decode prog_10_method_36_code 90 = .ok (.ireturn, 1) := dd_M_law_74.2.2.2.2.2.2.2.2.2.2.2.2.1
theorem d_M_law_91 : decode prog_10_method_36_code 91 = .ok (.aload_n 0, 1) := dd_M_law_74.2.2.2.2.2.2.2.2.2.2.2.2.2.1
theorem d_M_law_92 : decode prog_10_method_36_code 92 = .ok (.iload_n 1, 1) := dd_M_law_74.2.2.2.2.2.2.2.2.2.2.2.2.2.2.1
theorem d_M_law_93 : decode prog_10_method_36_code 93 = .ok (.invokevirtual 204, 3) := dd_M_law_74.2.2.2.2.2.2.2.2.2.2.2.2.2.2.2.1
theorem d_M_law_96 : decode prog_10_method_36_code 96 = .ok (.ireturn, 1) := dd_M_law_74.2.2.2.2.2.2.2.2.2.2.2.2.2.2.2.2.1
theorem d_M_law_97 : decode prog_10_method_36_code 97 = .ok (.aload_n 0, 1) := dd_M_law_74.2.2.2.2.2.2.2.2.2.2.2.2.2.2.2.2.2.1
theorem d_M_law_98 : decode prog_10_method_36_code 98 = .ok (.iload_n 1, 1) := dd_M_law_74.2.2.2.2.2.2.2.2.2.2.2.2.2.2.2.2.2.2.1
theorem d_M_law_99 : decode prog_10_method_36_code 99 = .ok (.invokevirtual 207, 3) := dd_M_law_74.2.2.2.2.2.2.2.2.2.2.2.2.2.2.2.2.2.2.2.1
theorem d_M_law_102 : decode prog_10_method_36_code 102 = .ok (.ireturn, 1) := dd_M_law_74.2.2.2.2.2.2.2.2.2.2.2.2.2.2.2.2.2.2.2.2.1
theorem d_M_law_103 : decode prog_10_method_36_code 103 = .ok (.iconst (-1), 1) := dd_M_law_74.2.2.2.2.2.2.2.2.2.2.2.2.2.2.2.2.2.2.2.2.2.1
theorem d_M_law_104 : decode prog_10_method_36_code 104 = .ok (.ireturn, 1) := dd_M_law_74.2.2.2.2.2.2.2.2.2.2.2.2.2.2.2.2.2.2.2.2.2.2
def f_M_law_0  (a0 : Nat) (a1 : Int32) (a2 : Int32) (h : mH) : Option (Int32 × mH) :=
  bd1 (kC h a0 8) fun _ =>
  bd2 (f_M_isLaw a0 a1 h) fun x5 h3 =>
  if x5 = 0 then
    some (((-1) : Int32), h3)
  else
    if a2 = (0 : Int32) then
      bd1 (gR h3 a0 8 0) fun x7 =>
      bd1 (aI h3 0 x7 ((0 : Int32) + a1)) fun x9 =>
      some (x9, h3)
    else
    if a2 = (1 : Int32) then
      bd1 (gR h3 a0 8 4) fun x12 =>
      bd1 (aI h3 0 x12 a1) fun x14 =>
      some (x14, h3)
    else
    if a2 = (2 : Int32) then
      bd1 (gR h3 a0 8 5) fun x17 =>
      bd1 (aI h3 0 x17 a1) fun x19 =>
      some (x19, h3)
    else
    if a2 = (3 : Int32) then
      bd1 (gR h3 a0 8 6) fun x22 =>
      bd1 (aI h3 0 x22 a1) fun x24 =>
      some (x24, h3)
    else
    if a2 = (4 : Int32) then
      bd1 (gR h3 a0 8 0) fun x27 =>
      bd1 (aI h3 0 x27 ((5 : Int32) + a1)) fun x29 =>
      some (x29, h3)
    else
    if a2 = (5 : Int32) then
      bd1 (kC h3 a0 8) fun _ =>
      bd2 (f_M_needOf a0 a1 h3) fun x36 h34 =>
      some (x36, h34)
    else
    if a2 = (6 : Int32) then
      bd1 (kC h3 a0 8) fun _ =>
      bd2 (f_M_chainOf a0 a1 h3) fun x42 h40 =>
      some (x42, h40)
    else
    some (((-1) : Int32), h3)
set_option maxRecDepth 20000 in
theorem t_M_law_0 {sc : Nat × (Nat → Int32)}  (a0 : Nat) (a1 : Int32) (a2 : Int32) (h : mH) (r : Int32) (h' : mH) (hf : f_M_law_0  a0 a1 a2 h = some (r, h')) : G sc y_M_law prog_10_method_36_code 3 (some .int) 2 46 0 [(0, .ref a0), (1, .int a1), (2, .int a2)] [] h (some (.int r)) h' := by
  unfold f_M_law_0 at hf
  refine g_aload_n (pc := 0) 0 d_M_law_0 rfl rfl ?_
  refine g_iload_n (pc := 1) 1 d_M_law_1 rfl rfl ?_
  obtain ⟨u2, e1, hf⟩ := bd1_e hf
  obtain ⟨x5, h3, e4, hf⟩ := bd2_e hf
  refine g_callV (pc := 2) (ci := 8) [.int a1] (site_of si_M_isLaw (by decide) (by decide)) wd_1136 wd_1138 wp_44 d_M_law_2 rfl e1 (Nat.le_of_ble_eq_true rfl) (fun z => absurd z (by decide)) (fun z => absurd z (by decide)) (fun z => absurd z (by decide)) (c_M_isLaw e4) rfl ?_
  refine g_st [.int x5] rfl ?_
  refine g_ifne (pc := 5) 10 d_M_law_5 (by decide) (fun c43 => ?_) (fun c43 => ?_)
  · replace hf := (if_neg c43).symm.trans hf
    refine g_iload_n (pc := 10) 2 d_M_law_10 rfl rfl ?_
    by_cases c6 : a2 = (0 : Int32)
    · replace hf := (if_pos c6).symm.trans hf
      refine g_tabIn (pc := 11) 52 (0 : Int32) d_M_law_11 c6 (by decide) (by decide) rfl (by decide) ?_
      refine g_aload_n (pc := 52) 0 d_M_law_52 rfl rfl ?_
      obtain ⟨x7, e8, hf⟩ := bd1_e hf
      refine g_get (pc := 53) (ci := 8) (kk := 0) d_M_law_53 rfl in_M (by decide) wd_938 (gR_spec e8) ?_
      refine g_iconst (pc := 56) (0 : Int32) d_M_law_56 (by decide) ?_
      refine g_iload_n (pc := 57) 1 d_M_law_57 rfl rfl ?_
      refine g_iadd (pc := 58) d_M_law_58 ?_
      obtain ⟨x9, e10, hf⟩ := bd1_e hf
      refine g_iald (pc := 59) d_M_law_59 e10 ?_
      obtain ⟨rfl, rfl⟩ := ret2 hf
      exact g_iret (pc := 60) rfl d_M_law_60
    replace hf := (if_neg c6).symm.trans hf
    by_cases c11 : a2 = (1 : Int32)
    · replace hf := (if_pos c11).symm.trans hf
      refine g_tabIn (pc := 11) 61 (1 : Int32) d_M_law_11 c11 (by decide) (by decide) rfl (by decide) ?_
      refine g_aload_n (pc := 61) 0 d_M_law_61 rfl rfl ?_
      obtain ⟨x12, e13, hf⟩ := bd1_e hf
      refine g_get (pc := 62) (ci := 8) (kk := 4) d_M_law_62 rfl in_M (by decide) wd_942 (gR_spec e13) ?_
      refine g_iload_n (pc := 65) 1 d_M_law_65 rfl rfl ?_
      obtain ⟨x14, e15, hf⟩ := bd1_e hf
      refine g_iald (pc := 66) d_M_law_66 e15 ?_
      obtain ⟨rfl, rfl⟩ := ret2 hf
      exact g_iret (pc := 67) rfl d_M_law_67
    replace hf := (if_neg c11).symm.trans hf
    by_cases c16 : a2 = (2 : Int32)
    · replace hf := (if_pos c16).symm.trans hf
      refine g_tabIn (pc := 11) 68 (2 : Int32) d_M_law_11 c16 (by decide) (by decide) rfl (by decide) ?_
      refine g_aload_n (pc := 68) 0 d_M_law_68 rfl rfl ?_
      obtain ⟨x17, e18, hf⟩ := bd1_e hf
      refine g_get (pc := 69) (ci := 8) (kk := 5) d_M_law_69 rfl in_M (by decide) wd_943 (gR_spec e18) ?_
      refine g_iload_n (pc := 72) 1 d_M_law_72 rfl rfl ?_
      obtain ⟨x19, e20, hf⟩ := bd1_e hf
      refine g_iald (pc := 73) d_M_law_73 e20 ?_
      obtain ⟨rfl, rfl⟩ := ret2 hf
      exact g_iret (pc := 74) rfl d_M_law_74
    replace hf := (if_neg c16).symm.trans hf
    by_cases c21 : a2 = (3 : Int32)
    · replace hf := (if_pos c21).symm.trans hf
      refine g_tabIn (pc := 11) 75 (3 : Int32) d_M_law_11 c21 (by decide) (by decide) rfl (by decide) ?_
      refine g_aload_n (pc := 75) 0 d_M_law_75 rfl rfl ?_
      obtain ⟨x22, e23, hf⟩ := bd1_e hf
      refine g_get (pc := 76) (ci := 8) (kk := 6) d_M_law_76 rfl in_M (by decide) wd_944 (gR_spec e23) ?_
      refine g_iload_n (pc := 79) 1 d_M_law_79 rfl rfl ?_
      obtain ⟨x24, e25, hf⟩ := bd1_e hf
      refine g_iald (pc := 80) d_M_law_80 e25 ?_
      obtain ⟨rfl, rfl⟩ := ret2 hf
      exact g_iret (pc := 81) rfl d_M_law_81
    replace hf := (if_neg c21).symm.trans hf
    by_cases c26 : a2 = (4 : Int32)
    · replace hf := (if_pos c26).symm.trans hf
      refine g_tabIn (pc := 11) 82 (4 : Int32) d_M_law_11 c26 (by decide) (by decide) rfl (by decide) ?_
      refine g_aload_n (pc := 82) 0 d_M_law_82 rfl rfl ?_
      obtain ⟨x27, e28, hf⟩ := bd1_e hf
      refine g_get (pc := 83) (ci := 8) (kk := 0) d_M_law_83 rfl in_M (by decide) wd_938 (gR_spec e28) ?_
      refine g_iconst (pc := 86) (5 : Int32) d_M_law_86 (by decide) ?_
      refine g_iload_n (pc := 87) 1 d_M_law_87 rfl rfl ?_
      refine g_iadd (pc := 88) d_M_law_88 ?_
      obtain ⟨x29, e30, hf⟩ := bd1_e hf
      refine g_iald (pc := 89) d_M_law_89 e30 ?_
      obtain ⟨rfl, rfl⟩ := ret2 hf
      exact g_iret (pc := 90) rfl d_M_law_90
    replace hf := (if_neg c26).symm.trans hf
    by_cases c31 : a2 = (5 : Int32)
    · replace hf := (if_pos c31).symm.trans hf
      refine g_tabIn (pc := 11) 91 (5 : Int32) d_M_law_11 c31 (by decide) (by decide) rfl (by decide) ?_
      refine g_aload_n (pc := 91) 0 d_M_law_91 rfl rfl ?_
      refine g_iload_n (pc := 92) 1 d_M_law_92 rfl rfl ?_
      obtain ⟨u33, e32, hf⟩ := bd1_e hf
      obtain ⟨x36, h34, e35, hf⟩ := bd2_e hf
      refine g_callV (pc := 93) (ci := 8) [.int a1] (site_of si_M_needOf (by decide) (by decide)) wd_1140 wd_1142 wp_45 d_M_law_93 rfl e32 (Nat.le_of_ble_eq_true rfl) (fun z => absurd z (by decide)) (fun z => absurd z (by decide)) (fun z => absurd z (by decide)) (c_M_needOf e35) rfl ?_
      refine g_st [.int x36] rfl ?_
      obtain ⟨rfl, rfl⟩ := ret2 hf
      exact g_iret (pc := 96) rfl d_M_law_96
    replace hf := (if_neg c31).symm.trans hf
    by_cases c37 : a2 = (6 : Int32)
    · replace hf := (if_pos c37).symm.trans hf
      refine g_tabIn (pc := 11) 97 (6 : Int32) d_M_law_11 c37 (by decide) (by decide) rfl (by decide) ?_
      refine g_aload_n (pc := 97) 0 d_M_law_97 rfl rfl ?_
      refine g_iload_n (pc := 98) 1 d_M_law_98 rfl rfl ?_
      obtain ⟨u39, e38, hf⟩ := bd1_e hf
      obtain ⟨x42, h40, e41, hf⟩ := bd2_e hf
      refine g_callV (pc := 99) (ci := 8) [.int a1] (site_of si_M_chainOf (by decide) (by decide)) wd_1152 wd_1154 wp_48 d_M_law_99 rfl e38 (Nat.le_of_ble_eq_true rfl) (fun z => absurd z (by decide)) (fun z => absurd z (by decide)) (fun z => absurd z (by decide)) (c_M_chainOf e41) rfl ?_
      refine g_st [.int x42] rfl ?_
      obtain ⟨rfl, rfl⟩ := ret2 hf
      exact g_iret (pc := 102) rfl d_M_law_102
    replace hf := (if_neg c37).symm.trans hf
    refine g_tabOut (pc := 11) 103 7 d_M_law_11 (by decide) (fun i hi => ?_) (by decide) ?_
    · rcases (show i = 0 ∨ i = 1 ∨ i = 2 ∨ i = 3 ∨ i = 4 ∨ i = 5 ∨ i = 6 by omega) with rfl | rfl | rfl | rfl | rfl | rfl | rfl
      · exact c6
      · exact c11
      · exact c16
      · exact c21
      · exact c26
      · exact c31
      · exact c37
    refine g_iconst (pc := 103) ((-1) : Int32) d_M_law_103 (by decide) ?_
    obtain ⟨rfl, rfl⟩ := ret2 hf
    exact g_iret (pc := 104) rfl d_M_law_104
  · replace hf := (if_pos c43).symm.trans hf
    refine g_iconst (pc := 8) ((-1) : Int32) d_M_law_8 (by decide) ?_
    obtain ⟨rfl, rfl⟩ := ret2 hf
    exact g_iret (pc := 9) rfl d_M_law_9
def f_M_law (a0 : Nat) (a1 : Int32) (a2 : Int32) (h : mH) : Option (Int32 × mH) := f_M_law_0 a0 a1 a2 h
theorem c_M_law {sc : Nat × (Nat → Int32)} {a0 : Nat} {a1 : Int32} {a2 : Int32} {h : mH} {r : Int32} {h' : mH} (hf : f_M_law a0 a1 a2 h = some (r, h')) : MM sc y_M_law prog_10_method_36_code 3 (some .int) 2 46 [.ref a0, .int a1, .int a2] h (some (.int r)) h' :=
  mm_of_G (by decide) (Nat.le_of_ble_eq_true rfl) (t_M_law_0 _ _ _ _ _ _ hf)
/-! M isOne (I)Z -/
set_option maxRecDepth 100000 in
theorem dd_M_isOne_0 : (decode prog_10_method_24_code 0 = .ok (.iload_n 1, 1)) ∧ (decode prog_10_method_24_code 1 = .ok (.i2l, 1)) ∧ (decode prog_10_method_24_code 2 = .ok (.lconst 0, 1)) ∧ (decode prog_10_method_24_code 3 = .ok (.aload_n 0, 1)) ∧ (decode prog_10_method_24_code 4 = .ok (.getfield 109, 3)) ∧ (decode prog_10_method_24_code 7 = .ok (.iconst 1, 1)) ∧ (decode prog_10_method_24_code 8 = .ok (.isub, 1)) ∧ (decode prog_10_method_24_code 9 = .ok (.i2l, 1)) ∧ (decode prog_10_method_24_code 10 = .ok (.invokestatic 114, 3)) ∧ (decode prog_10_method_24_code 13 = .ok (.ireturn, 1)) := by
  have h : List.drop 0 prog_10_method_24_code.data.toList = 0x1b :: _ := rfl
  refine ⟨zq_k_n 27 h rfl (zq_o_27 _), ?_⟩
  replace h := zq_nx1 (q := 1) h rfl
  refine ⟨zq_k_n 133 h rfl (zq_o_133 _), ?_⟩
  replace h := zq_nx1 (q := 2) h rfl
  refine ⟨zq_k_n 9 h rfl (zq_o_9 _), ?_⟩
  replace h := zq_nx1 (q := 3) h rfl
  refine ⟨zq_k_n 42 h rfl (zq_o_42 _), ?_⟩
  replace h := zq_nx1 (q := 4) h rfl
  refine ⟨zq_k_u2 180 (fun z => .getfield z) 109 h rfl (zq_o_180 _) (by decide +kernel), ?_⟩
  replace h := zq_nx3 (q := 7) h rfl
  refine ⟨zq_k_n 4 h rfl (zq_o_4 _), ?_⟩
  replace h := zq_nx1 (q := 8) h rfl
  refine ⟨zq_k_n 100 h rfl (zq_o_100 _), ?_⟩
  replace h := zq_nx1 (q := 9) h rfl
  refine ⟨zq_k_n 133 h rfl (zq_o_133 _), ?_⟩
  replace h := zq_nx1 (q := 10) h rfl
  refine ⟨zq_k_u2 184 (fun z => .invokestatic z) 114 h rfl (zq_o_184 _) (by decide +kernel), ?_⟩
  replace h := zq_nx3 (q := 13) h rfl
  exact zq_k_n 172 h rfl (zq_o_172 _)
theorem d_M_isOne_0 : decode prog_10_method_24_code 0 = .ok (.iload_n 1, 1) := dd_M_isOne_0.1
theorem d_M_isOne_1 : decode prog_10_method_24_code 1 = .ok (.i2l, 1) := dd_M_isOne_0.2.1
theorem d_M_isOne_2 : decode prog_10_method_24_code 2 = .ok (.lconst 0, 1) := dd_M_isOne_0.2.2.1
theorem d_M_isOne_3 : decode prog_10_method_24_code 3 = .ok (.aload_n 0, 1) := dd_M_isOne_0.2.2.2.1
theorem d_M_isOne_4 : decode prog_10_method_24_code 4 = .ok (.getfield 109, 3) := dd_M_isOne_0.2.2.2.2.1
theorem d_M_isOne_7 : decode prog_10_method_24_code 7 = .ok (.iconst 1, 1) := dd_M_isOne_0.2.2.2.2.2.1
theorem d_M_isOne_8 : decode prog_10_method_24_code 8 = .ok (.isub, 1) := dd_M_isOne_0.2.2.2.2.2.2.1
theorem d_M_isOne_9 : decode prog_10_method_24_code 9 = .ok (.i2l, 1) := dd_M_isOne_0.2.2.2.2.2.2.2.1
theorem d_M_isOne_10 : decode prog_10_method_24_code 10 = .ok (.invokestatic 114, 3) := dd_M_isOne_0.2.2.2.2.2.2.2.2.1
theorem d_M_isOne_13 : decode prog_10_method_24_code 13 = .ok (.ireturn, 1) := dd_M_isOne_0.2.2.2.2.2.2.2.2.2
def f_M_isOne_0  (a0 : Nat) (a1 : Int32) (h : mH) : Option (Int32 × mH) :=
  bd1 (gI h a0 8 3) fun x1 =>
  bd2 (f_M_in a1.toInt64 (0 : Int64) ((x1 - (1 : Int32)).toInt64) h) fun x5 h3 =>
  if x5 = 0 ∨ x5 = 1 then some (x5, h3) else none
set_option maxRecDepth 20000 in
theorem t_M_isOne_0 {sc : Nat × (Nat → Int32)}  (a0 : Nat) (a1 : Int32) (h : mH) (r : Int32) (h' : mH) (hf : f_M_isOne_0  a0 a1 h = some (r, h')) : G sc y_M_isOne prog_10_method_24_code 2 (some .boolean) 1 25 0 [(0, .ref a0), (1, .int a1)] [] h (some (.int r)) h' := by
  unfold f_M_isOne_0 at hf
  refine g_iload_n (pc := 0) 1 d_M_isOne_0 rfl rfl ?_
  refine g_i2l (pc := 1) d_M_isOne_1 ?_
  refine g_lconst (pc := 2) (0 : Int64) d_M_isOne_2 (by decide) ?_
  refine g_aload_n (pc := 3) 0 d_M_isOne_3 rfl rfl ?_
  obtain ⟨x1, e2, hf⟩ := bd1_e hf
  refine g_get (pc := 4) (ci := 8) (kk := 3) d_M_isOne_4 rfl in_M (by decide) wd_941 (gI_spec e2) ?_
  refine g_iconst (pc := 7) (1 : Int32) d_M_isOne_7 (by decide) ?_
  refine g_isub (pc := 8) d_M_isOne_8 ?_
  refine g_i2l (pc := 9) d_M_isOne_9 ?_
  obtain ⟨x5, h3, e4, hf⟩ := bd2_e hf
  refine g_callS (pc := 10) [.long a1.toInt64, .long (0 : Int64), .long ((x1 - (1 : Int32)).toInt64)] (site_of si_M_in (by decide) (by decide)) wd_1061 wd_1062 d_M_isOne_10 (Nat.le_of_ble_eq_true rfl) (fun z => absurd z (by decide)) (fun z => absurd z (by decide)) (fun z => absurd z (by decide)) (c_M_in e4) rfl ?_
  refine g_st [.int x5] rfl ?_
  by_cases c6 : x5 = 0 ∨ x5 = 1
  · replace hf := (if_pos c6).symm.trans hf
    obtain ⟨rfl, rfl⟩ := ret2 hf
    exact g_zret (pc := 13) rfl (nar_z c6) d_M_isOne_13
  · exact absurd ((if_neg c6).symm.trans hf) (by simp)
def f_M_isOne (a0 : Nat) (a1 : Int32) (h : mH) : Option (Int32 × mH) := f_M_isOne_0 a0 a1 h
theorem c_M_isOne {sc : Nat × (Nat → Int32)} {a0 : Nat} {a1 : Int32} {h : mH} {r : Int32} {h' : mH} (hf : f_M_isOne a0 a1 h = some (r, h')) : MM sc y_M_isOne prog_10_method_24_code 2 (some .boolean) 1 25 [.ref a0, .int a1] h (some (.int r)) h' :=
  mm_of_G (by decide) (Nat.le_of_ble_eq_true rfl) (t_M_isOne_0 _ _ _ _ _ hf)
/-! M roomOf (II)I -/
set_option maxRecDepth 100000 in
theorem dd_M_roomOf_0 : (decode prog_10_method_31_code 0 = .ok (.aload_n 0, 1)) ∧ (decode prog_10_method_31_code 1 = .ok (.iload_n 2, 1)) ∧ (decode prog_10_method_31_code 2 = .ok (.invokevirtual 191, 3)) ∧ (decode prog_10_method_31_code 5 = .ok (.ifCond .eq 23, 3)) ∧ (decode prog_10_method_31_code 8 = .ok (.aload_n 0, 1)) ∧ (decode prog_10_method_31_code 9 = .ok (.getfield 7, 3)) ∧ (decode prog_10_method_31_code 12 = .ok (.bipush 18, 2)) ∧ (decode prog_10_method_31_code 14 = .ok (.iload_n 1, 1)) ∧ (decode prog_10_method_31_code 15 = .ok (.iadd, 1)) ∧ (decode prog_10_method_31_code 16 = .ok (.iaload, 1)) ∧ (decode prog_10_method_31_code 17 = .ok (.iload_n 2, 1)) ∧ (decode prog_10_method_31_code 18 = .ok (.ishr, 1)) ∧ (decode prog_10_method_31_code 19 = .ok (.iconst 1, 1)) ∧ (decode prog_10_method_31_code 20 = .ok (.iand, 1)) ∧ (decode prog_10_method_31_code 21 = .ok (.ifCond .ne 7, 3)) ∧ (decode prog_10_method_31_code 24 = .ok (.iconst 1, 1)) ∧ (decode prog_10_method_31_code 25 = .ok (.goto 4, 3)) ∧ (decode prog_10_method_31_code 28 = .ok (.iconst 0, 1)) ∧ (decode prog_10_method_31_code 29 = .ok (.istore_n 3, 1)) ∧ (decode prog_10_method_31_code 30 = .ok (.iload_n 3, 1)) ∧ (decode prog_10_method_31_code 31 = .ok (.ifCond .eq 19, 3)) ∧ (decode prog_10_method_31_code 34 = .ok (.aload_n 0, 1)) ∧ (decode prog_10_method_31_code 35 = .ok (.getfield 17, 3)) ∧ (decode prog_10_method_31_code 38 = .ok (.iload_n 2, 1)) := by
  have h : List.drop 0 prog_10_method_31_code.data.toList = 0x2a :: _ := rfl
  refine ⟨zq_k_n 42 h rfl (zq_o_42 _), ?_⟩
  replace h := zq_nx1 (q := 1) h rfl
  refine ⟨zq_k_n 28 h rfl (zq_o_28 _), ?_⟩
  replace h := zq_nx1 (q := 2) h rfl
  refine ⟨zq_k_u2 182 (fun z => .invokevirtual z) 191 h rfl (zq_o_182 _) (by decide +kernel), ?_⟩
  replace h := zq_nx3 (q := 5) h rfl
  refine ⟨zq_k_s2 153 (fun z => .ifCond .eq z) 23 h rfl (zq_o_153 _) (by decide +kernel), ?_⟩
  replace h := zq_nx3 (q := 8) h rfl
  refine ⟨zq_k_n 42 h rfl (zq_o_42 _), ?_⟩
  replace h := zq_nx1 (q := 9) h rfl
  refine ⟨zq_k_u2 180 (fun z => .getfield z) 7 h rfl (zq_o_180 _) (by decide +kernel), ?_⟩
  replace h := zq_nx3 (q := 12) h rfl
  refine ⟨zq_k_s1 16 (fun z => .bipush z) 18 h rfl (zq_o_16 _) (by decide +kernel), ?_⟩
  replace h := zq_nx2 (q := 14) h rfl
  refine ⟨zq_k_n 27 h rfl (zq_o_27 _), ?_⟩
  replace h := zq_nx1 (q := 15) h rfl
  refine ⟨zq_k_n 96 h rfl (zq_o_96 _), ?_⟩
  replace h := zq_nx1 (q := 16) h rfl
  refine ⟨zq_k_n 46 h rfl (zq_o_46 _), ?_⟩
  replace h := zq_nx1 (q := 17) h rfl
  refine ⟨zq_k_n 28 h rfl (zq_o_28 _), ?_⟩
  replace h := zq_nx1 (q := 18) h rfl
  refine ⟨zq_k_n 122 h rfl (zq_o_122 _), ?_⟩
  replace h := zq_nx1 (q := 19) h rfl
  refine ⟨zq_k_n 4 h rfl (zq_o_4 _), ?_⟩
  replace h := zq_nx1 (q := 20) h rfl
  refine ⟨zq_k_n 126 h rfl (zq_o_126 _), ?_⟩
  replace h := zq_nx1 (q := 21) h rfl
  refine ⟨zq_k_s2 154 (fun z => .ifCond .ne z) 7 h rfl (zq_o_154 _) (by decide +kernel), ?_⟩
  replace h := zq_nx3 (q := 24) h rfl
  refine ⟨zq_k_n 4 h rfl (zq_o_4 _), ?_⟩
  replace h := zq_nx1 (q := 25) h rfl
  refine ⟨zq_k_s2 167 (fun z => .goto z) 4 h rfl (zq_o_167 _) (by decide +kernel), ?_⟩
  replace h := zq_nx3 (q := 28) h rfl
  refine ⟨zq_k_n 3 h rfl (zq_o_3 _), ?_⟩
  replace h := zq_nx1 (q := 29) h rfl
  refine ⟨zq_k_n 62 h rfl (zq_o_62 _), ?_⟩
  replace h := zq_nx1 (q := 30) h rfl
  refine ⟨zq_k_n 29 h rfl (zq_o_29 _), ?_⟩
  replace h := zq_nx1 (q := 31) h rfl
  refine ⟨zq_k_s2 153 (fun z => .ifCond .eq z) 19 h rfl (zq_o_153 _) (by decide +kernel), ?_⟩
  replace h := zq_nx3 (q := 34) h rfl
  refine ⟨zq_k_n 42 h rfl (zq_o_42 _), ?_⟩
  replace h := zq_nx1 (q := 35) h rfl
  refine ⟨zq_k_u2 180 (fun z => .getfield z) 17 h rfl (zq_o_180 _) (by decide +kernel), ?_⟩
  replace h := zq_nx3 (q := 38) h rfl
  exact zq_k_n 28 h rfl (zq_o_28 _)
theorem d_M_roomOf_0 : decode prog_10_method_31_code 0 = .ok (.aload_n 0, 1) := dd_M_roomOf_0.1
theorem d_M_roomOf_1 : decode prog_10_method_31_code 1 = .ok (.iload_n 2, 1) := dd_M_roomOf_0.2.1
theorem d_M_roomOf_2 : decode prog_10_method_31_code 2 = .ok (.invokevirtual 191, 3) := dd_M_roomOf_0.2.2.1
theorem d_M_roomOf_5 : decode prog_10_method_31_code 5 = .ok (.ifCond .eq 23, 3) := dd_M_roomOf_0.2.2.2.1
theorem d_M_roomOf_8 : decode prog_10_method_31_code 8 = .ok (.aload_n 0, 1) := dd_M_roomOf_0.2.2.2.2.1
theorem d_M_roomOf_9 : decode prog_10_method_31_code 9 = .ok (.getfield 7, 3) := dd_M_roomOf_0.2.2.2.2.2.1
theorem d_M_roomOf_12 : decode prog_10_method_31_code 12 = .ok (.bipush 18, 2) := dd_M_roomOf_0.2.2.2.2.2.2.1
theorem d_M_roomOf_14 : decode prog_10_method_31_code 14 = .ok (.iload_n 1, 1) := dd_M_roomOf_0.2.2.2.2.2.2.2.1
theorem d_M_roomOf_15 : decode prog_10_method_31_code 15 = .ok (.iadd, 1) := dd_M_roomOf_0.2.2.2.2.2.2.2.2.1
theorem d_M_roomOf_16 : decode prog_10_method_31_code 16 = .ok (.iaload, 1) := dd_M_roomOf_0.2.2.2.2.2.2.2.2.2.1
theorem d_M_roomOf_17 : decode prog_10_method_31_code 17 = .ok (.iload_n 2, 1) := dd_M_roomOf_0.2.2.2.2.2.2.2.2.2.2.1
theorem d_M_roomOf_18 : decode prog_10_method_31_code 18 = .ok (.ishr, 1) := dd_M_roomOf_0.2.2.2.2.2.2.2.2.2.2.2.1
theorem d_M_roomOf_19 : decode prog_10_method_31_code 19 = .ok (.iconst 1, 1) := dd_M_roomOf_0.2.2.2.2.2.2.2.2.2.2.2.2.1
theorem d_M_roomOf_20 : decode prog_10_method_31_code 20 = .ok (.iand, 1) := dd_M_roomOf_0.2.2.2.2.2.2.2.2.2.2.2.2.2.1
theorem d_M_roomOf_21 : decode prog_10_method_31_code 21 = .ok (.ifCond .ne 7, 3) := dd_M_roomOf_0.2.2.2.2.2.2.2.2.2.2.2.2.2.2.1
theorem d_M_roomOf_24 : decode prog_10_method_31_code 24 = .ok (.iconst 1, 1) := dd_M_roomOf_0.2.2.2.2.2.2.2.2.2.2.2.2.2.2.2.1
theorem d_M_roomOf_25 : decode prog_10_method_31_code 25 = .ok (.goto 4, 3) := dd_M_roomOf_0.2.2.2.2.2.2.2.2.2.2.2.2.2.2.2.2.1
theorem d_M_roomOf_28 : decode prog_10_method_31_code 28 = .ok (.iconst 0, 1) := dd_M_roomOf_0.2.2.2.2.2.2.2.2.2.2.2.2.2.2.2.2.2.1
theorem d_M_roomOf_29 : decode prog_10_method_31_code 29 = .ok (.istore_n 3, 1) := dd_M_roomOf_0.2.2.2.2.2.2.2.2.2.2.2.2.2.2.2.2.2.2.1
theorem d_M_roomOf_30 : decode prog_10_method_31_code 30 = .ok (.iload_n 3, 1) := dd_M_roomOf_0.2.2.2.2.2.2.2.2.2.2.2.2.2.2.2.2.2.2.2.1
theorem d_M_roomOf_31 : decode prog_10_method_31_code 31 = .ok (.ifCond .eq 19, 3) := dd_M_roomOf_0.2.2.2.2.2.2.2.2.2.2.2.2.2.2.2.2.2.2.2.2.1
theorem d_M_roomOf_34 : decode prog_10_method_31_code 34 = .ok (.aload_n 0, 1) := dd_M_roomOf_0.2.2.2.2.2.2.2.2.2.2.2.2.2.2.2.2.2.2.2.2.2.1
theorem d_M_roomOf_35 : decode prog_10_method_31_code 35 = .ok (.getfield 17, 3) := dd_M_roomOf_0.2.2.2.2.2.2.2.2.2.2.2.2.2.2.2.2.2.2.2.2.2.2.1
theorem d_M_roomOf_38 : decode prog_10_method_31_code 38 = .ok (.iload_n 2, 1) := dd_M_roomOf_0.2.2.2.2.2.2.2.2.2.2.2.2.2.2.2.2.2.2.2.2.2.2.2
set_option maxRecDepth 100000 in
theorem dd_M_roomOf_39 : (decode prog_10_method_31_code 39 = .ok (.iaload, 1)) ∧ (decode prog_10_method_31_code 40 = .ok (.aload_n 0, 1)) ∧ (decode prog_10_method_31_code 41 = .ok (.iload_n 1, 1)) ∧ (decode prog_10_method_31_code 42 = .ok (.iload_n 2, 1)) ∧ (decode prog_10_method_31_code 43 = .ok (.invokevirtual 188, 3)) ∧ (decode prog_10_method_31_code 46 = .ok (.isub, 1)) ∧ (decode prog_10_method_31_code 47 = .ok (.goto 4, 3)) ∧ (decode prog_10_method_31_code 50 = .ok (.iconst 0, 1)) ∧ (decode prog_10_method_31_code 51 = .ok (.istore 4, 2)) ∧ (decode prog_10_method_31_code 53 = .ok (.iload 4, 2)) ∧ (decode prog_10_method_31_code 55 = .ok (.ifCond .ge 7, 3)) ∧ (decode prog_10_method_31_code 58 = .ok (.iconst 0, 1)) ∧ (decode prog_10_method_31_code 59 = .ok (.goto 5, 3)) ∧ (decode prog_10_method_31_code 62 = .ok (.iload 4, 2)) ∧ (decode prog_10_method_31_code 64 = .ok (.ireturn, 1)) := by
  have h : List.drop 39 prog_10_method_31_code.data.toList = 0x2e :: _ := rfl
  refine ⟨zq_k_n 46 h rfl (zq_o_46 _), ?_⟩
  replace h := zq_nx1 (q := 40) h rfl
  refine ⟨zq_k_n 42 h rfl (zq_o_42 _), ?_⟩
  replace h := zq_nx1 (q := 41) h rfl
  refine ⟨zq_k_n 27 h rfl (zq_o_27 _), ?_⟩
  replace h := zq_nx1 (q := 42) h rfl
  refine ⟨zq_k_n 28 h rfl (zq_o_28 _), ?_⟩
  replace h := zq_nx1 (q := 43) h rfl
  refine ⟨zq_k_u2 182 (fun z => .invokevirtual z) 188 h rfl (zq_o_182 _) (by decide +kernel), ?_⟩
  replace h := zq_nx3 (q := 46) h rfl
  refine ⟨zq_k_n 100 h rfl (zq_o_100 _), ?_⟩
  replace h := zq_nx1 (q := 47) h rfl
  refine ⟨zq_k_s2 167 (fun z => .goto z) 4 h rfl (zq_o_167 _) (by decide +kernel), ?_⟩
  replace h := zq_nx3 (q := 50) h rfl
  refine ⟨zq_k_n 3 h rfl (zq_o_3 _), ?_⟩
  replace h := zq_nx1 (q := 51) h rfl
  refine ⟨zq_k_u1 54 (fun z => .istore z) 4 h rfl (zq_o_54 _) (by decide +kernel), ?_⟩
  replace h := zq_nx2 (q := 53) h rfl
  refine ⟨zq_k_u1 21 (fun z => .iload z) 4 h rfl (zq_o_21 _) (by decide +kernel), ?_⟩
  replace h := zq_nx2 (q := 55) h rfl
  refine ⟨zq_k_s2 156 (fun z => .ifCond .ge z) 7 h rfl (zq_o_156 _) (by decide +kernel), ?_⟩
  replace h := zq_nx3 (q := 58) h rfl
  refine ⟨zq_k_n 3 h rfl (zq_o_3 _), ?_⟩
  replace h := zq_nx1 (q := 59) h rfl
  refine ⟨zq_k_s2 167 (fun z => .goto z) 5 h rfl (zq_o_167 _) (by decide +kernel), ?_⟩
  replace h := zq_nx3 (q := 62) h rfl
  refine ⟨zq_k_u1 21 (fun z => .iload z) 4 h rfl (zq_o_21 _) (by decide +kernel), ?_⟩
  replace h := zq_nx2 (q := 64) h rfl
  exact zq_k_n 172 h rfl (zq_o_172 _)
theorem d_M_roomOf_39 : decode prog_10_method_31_code 39 = .ok (.iaload, 1) := dd_M_roomOf_39.1
theorem d_M_roomOf_40 : decode prog_10_method_31_code 40 = .ok (.aload_n 0, 1) := dd_M_roomOf_39.2.1
theorem d_M_roomOf_41 : decode prog_10_method_31_code 41 = .ok (.iload_n 1, 1) := dd_M_roomOf_39.2.2.1
theorem d_M_roomOf_42 : decode prog_10_method_31_code 42 = .ok (.iload_n 2, 1) := dd_M_roomOf_39.2.2.2.1
theorem d_M_roomOf_43 : decode prog_10_method_31_code 43 = .ok (.invokevirtual 188, 3) := dd_M_roomOf_39.2.2.2.2.1
theorem d_M_roomOf_46 : decode prog_10_method_31_code 46 = .ok (.isub, 1) := dd_M_roomOf_39.2.2.2.2.2.1
theorem d_M_roomOf_47 : decode prog_10_method_31_code 47 = .ok (.goto 4, 3) := dd_M_roomOf_39.2.2.2.2.2.2.1
theorem d_M_roomOf_50 : decode prog_10_method_31_code 50 = .ok (.iconst 0, 1) := dd_M_roomOf_39.2.2.2.2.2.2.2.1
theorem d_M_roomOf_51 : decode prog_10_method_31_code 51 = .ok (.istore 4, 2) := dd_M_roomOf_39.2.2.2.2.2.2.2.2.1
theorem d_M_roomOf_53 : decode prog_10_method_31_code 53 = .ok (.iload 4, 2) := dd_M_roomOf_39.2.2.2.2.2.2.2.2.2.1
theorem d_M_roomOf_55 : decode prog_10_method_31_code 55 = .ok (.ifCond .ge 7, 3) := dd_M_roomOf_39.2.2.2.2.2.2.2.2.2.2.1
theorem d_M_roomOf_58 : decode prog_10_method_31_code 58 = .ok (.iconst 0, 1) := dd_M_roomOf_39.2.2.2.2.2.2.2.2.2.2.2.1
theorem d_M_roomOf_59 : decode prog_10_method_31_code 59 = .ok (.goto 5, 3) := dd_M_roomOf_39.2.2.2.2.2.2.2.2.2.2.2.2.1
theorem d_M_roomOf_62 : decode prog_10_method_31_code 62 = .ok (.iload 4, 2) := dd_M_roomOf_39.2.2.2.2.2.2.2.2.2.2.2.2.2.1
theorem d_M_roomOf_64 : decode prog_10_method_31_code 64 = .ok (.ireturn, 1) := dd_M_roomOf_39.2.2.2.2.2.2.2.2.2.2.2.2.2.2
def f_M_roomOf_51  (s0 : Int32) (h : mH) : Option (Int32 × mH) :=
  if 0 ≤ s0 then
    some (s0, h)
  else
    some ((0 : Int32), h)
set_option maxRecDepth 20000 in
theorem t_M_roomOf_51 {sc : Nat × (Nat → Int32)}  (s0 : Int32) (h : mH) (r : Int32) (h' : mH) (hf : f_M_roomOf_51  s0 h = some (r, h')) : G sc y_M_roomOf prog_10_method_31_code 5 (some .int) 1 22 51 [] [.int s0] h (some (.int r)) h' := by
  unfold f_M_roomOf_51 at hf
  refine g_istore (pc := 51) [(4, .int s0)] d_M_roomOf_51 (Nat.le_of_ble_eq_true rfl) rfl ?_
  refine g_iload (pc := 53) 0 d_M_roomOf_53 rfl ?_
  refine g_ifge (pc := 55) 62 d_M_roomOf_55 (by decide) (fun c22 => ?_) (fun c22 => ?_)
  · replace hf := (if_pos c22).symm.trans hf
    refine g_iload (pc := 62) 0 d_M_roomOf_62 rfl ?_
    obtain ⟨rfl, rfl⟩ := ret2 hf
    exact g_iret (pc := 64) rfl d_M_roomOf_64
  · replace hf := (if_neg c22).symm.trans hf
    refine g_iconst (pc := 58) (0 : Int32) d_M_roomOf_58 (by decide) ?_
    refine g_goto (pc := 59) 64 d_M_roomOf_59 (by decide) ?_
    obtain ⟨rfl, rfl⟩ := ret2 hf
    exact g_iret (pc := 64) rfl d_M_roomOf_64
def f_M_roomOf_29  (b0 : Nat) (b1 : Int32) (b2 : Int32) (s0 : Int32) (h : mH) : Option (Int32 × mH) :=
  if s0 = 0 then
    f_M_roomOf_51  (0 : Int32) h
  else
    bd1 (gR h b0 8 4) fun x12 =>
    bd1 (aI h 0 x12 b2) fun x14 =>
    bd1 (kC h b0 8) fun _ =>
    bd2 (f_M_brokenBy b0 b1 b2 h) fun x20 h18 =>
    f_M_roomOf_51  (x14 - x20) h18
set_option maxRecDepth 20000 in
theorem t_M_roomOf_29 {sc : Nat × (Nat → Int32)}  (b0 : Nat) (b1 : Int32) (b2 : Int32) (s0 : Int32) (h : mH) (r : Int32) (h' : mH) (hf : f_M_roomOf_29  b0 b1 b2 s0 h = some (r, h')) : G sc y_M_roomOf prog_10_method_31_code 5 (some .int) 1 22 29 [(0, .ref b0), (1, .int b1), (2, .int b2)] [.int s0] h (some (.int r)) h' := by
  unfold f_M_roomOf_29 at hf
  refine g_istore_n (pc := 29) [(3, .int s0), (0, .ref b0), (1, .int b1), (2, .int b2)] d_M_roomOf_29 rfl (Nat.le_of_ble_eq_true rfl) rfl ?_
  refine g_iload_n (pc := 30) 0 d_M_roomOf_30 rfl rfl ?_
  refine g_ifeq (pc := 31) 50 d_M_roomOf_31 (by decide) (fun c21 => ?_) (fun c21 => ?_)
  · replace hf := (if_pos c21).symm.trans hf
    refine g_iconst (pc := 50) (0 : Int32) d_M_roomOf_50 (by decide) ?_
    refine g_lv [] rfl ?_
    exact t_M_roomOf_51  _ _ _ _  hf
  · replace hf := (if_neg c21).symm.trans hf
    refine g_aload_n (pc := 34) 1 d_M_roomOf_34 rfl rfl ?_
    obtain ⟨x12, e13, hf⟩ := bd1_e hf
    refine g_get (pc := 35) (ci := 8) (kk := 4) d_M_roomOf_35 rfl in_M (by decide) wd_942 (gR_spec e13) ?_
    refine g_iload_n (pc := 38) 3 d_M_roomOf_38 rfl rfl ?_
    obtain ⟨x14, e15, hf⟩ := bd1_e hf
    refine g_iald (pc := 39) d_M_roomOf_39 e15 ?_
    refine g_aload_n (pc := 40) 1 d_M_roomOf_40 rfl rfl ?_
    refine g_iload_n (pc := 41) 2 d_M_roomOf_41 rfl rfl ?_
    refine g_iload_n (pc := 42) 3 d_M_roomOf_42 rfl rfl ?_
    obtain ⟨u17, e16, hf⟩ := bd1_e hf
    obtain ⟨x20, h18, e19, hf⟩ := bd2_e hf
    refine g_callV (pc := 43) (ci := 8) [.int b1, .int b2] (site_of si_M_brokenBy (by decide) (by decide)) wd_1148 wd_1150 wp_47 d_M_roomOf_43 rfl e16 (Nat.le_of_ble_eq_true rfl) (fun z => absurd z (by decide)) (fun z => absurd z (by decide)) (fun z => absurd z (by decide)) (c_M_brokenBy e19) rfl ?_
    refine g_st [.int x20, .int x14] rfl ?_
    refine g_isub (pc := 46) d_M_roomOf_46 ?_
    refine g_goto (pc := 47) 51 d_M_roomOf_47 (by decide) ?_
    refine g_lv [] rfl ?_
    exact t_M_roomOf_51  _ _ _ _  hf
def f_M_roomOf_28  (b0 : Nat) (b1 : Int32) (b2 : Int32) (h : mH) : Option (Int32 × mH) :=
  f_M_roomOf_29  b0 b1 b2 (0 : Int32) h
set_option maxRecDepth 20000 in
theorem t_M_roomOf_28 {sc : Nat × (Nat → Int32)}  (b0 : Nat) (b1 : Int32) (b2 : Int32) (h : mH) (r : Int32) (h' : mH) (hf : f_M_roomOf_28  b0 b1 b2 h = some (r, h')) : G sc y_M_roomOf prog_10_method_31_code 5 (some .int) 1 22 28 [(0, .ref b0), (1, .int b1), (2, .int b2)] [] h (some (.int r)) h' := by
  unfold f_M_roomOf_28 at hf
  refine g_iconst (pc := 28) (0 : Int32) d_M_roomOf_28 (by decide) ?_
  refine g_lv [0, 1, 2] rfl ?_
  exact t_M_roomOf_29  _ _ _ _ _ _ _  hf
def f_M_roomOf_0  (a0 : Nat) (a1 : Int32) (a2 : Int32) (h : mH) : Option (Int32 × mH) :=
  bd1 (kC h a0 8) fun _ =>
  bd2 (f_M_doesStand a0 a2 h) fun x5 h3 =>
  if x5 = 0 then
    f_M_roomOf_28  a0 a1 a2 h3
  else
    bd1 (gR h3 a0 8 0) fun x6 =>
    bd1 (aI h3 0 x6 ((18 : Int32) + a1)) fun x8 =>
    if ((x8 >>> (a2 &&& 31)) &&& (1 : Int32)) = 0 then
      f_M_roomOf_29  a0 a1 a2 (1 : Int32) h3
    else
      f_M_roomOf_28  a0 a1 a2 h3
set_option maxRecDepth 20000 in
theorem t_M_roomOf_0 {sc : Nat × (Nat → Int32)}  (a0 : Nat) (a1 : Int32) (a2 : Int32) (h : mH) (r : Int32) (h' : mH) (hf : f_M_roomOf_0  a0 a1 a2 h = some (r, h')) : G sc y_M_roomOf prog_10_method_31_code 5 (some .int) 1 22 0 [(0, .ref a0), (1, .int a1), (2, .int a2)] [] h (some (.int r)) h' := by
  unfold f_M_roomOf_0 at hf
  refine g_aload_n (pc := 0) 0 d_M_roomOf_0 rfl rfl ?_
  refine g_iload_n (pc := 1) 2 d_M_roomOf_1 rfl rfl ?_
  obtain ⟨u2, e1, hf⟩ := bd1_e hf
  obtain ⟨x5, h3, e4, hf⟩ := bd2_e hf
  refine g_callV (pc := 2) (ci := 8) [.int a2] (site_of si_M_doesStand (by decide) (by decide)) wd_1144 wd_1146 wp_46 d_M_roomOf_2 rfl e1 (Nat.le_of_ble_eq_true rfl) (fun z => absurd z (by decide)) (fun z => absurd z (by decide)) (fun z => absurd z (by decide)) (c_M_doesStand e4) rfl ?_
  refine g_st [.int x5] rfl ?_
  refine g_ifeq (pc := 5) 28 d_M_roomOf_5 (by decide) (fun c11 => ?_) (fun c11 => ?_)
  · replace hf := (if_pos c11).symm.trans hf
    refine g_lv [0, 1, 2] rfl ?_
    exact t_M_roomOf_28  _ _ _ _ _ _  hf
  · replace hf := (if_neg c11).symm.trans hf
    refine g_aload_n (pc := 8) 0 d_M_roomOf_8 rfl rfl ?_
    obtain ⟨x6, e7, hf⟩ := bd1_e hf
    refine g_get (pc := 9) (ci := 8) (kk := 0) d_M_roomOf_9 rfl in_M (by decide) wd_938 (gR_spec e7) ?_
    refine g_bipush (pc := 12) (18 : Int32) d_M_roomOf_12 (by decide) ?_
    refine g_iload_n (pc := 14) 1 d_M_roomOf_14 rfl rfl ?_
    refine g_iadd (pc := 15) d_M_roomOf_15 ?_
    obtain ⟨x8, e9, hf⟩ := bd1_e hf
    refine g_iald (pc := 16) d_M_roomOf_16 e9 ?_
    refine g_iload_n (pc := 17) 2 d_M_roomOf_17 rfl rfl ?_
    refine g_ishr (pc := 18) d_M_roomOf_18 ?_
    refine g_iconst (pc := 19) (1 : Int32) d_M_roomOf_19 (by decide) ?_
    refine g_iand (pc := 20) d_M_roomOf_20 ?_
    refine g_ifne (pc := 21) 28 d_M_roomOf_21 (by decide) (fun c10 => ?_) (fun c10 => ?_)
    · replace hf := (if_neg c10).symm.trans hf
      refine g_lv [0, 1, 2] rfl ?_
      exact t_M_roomOf_28  _ _ _ _ _ _  hf
    · replace hf := (if_pos c10).symm.trans hf
      refine g_iconst (pc := 24) (1 : Int32) d_M_roomOf_24 (by decide) ?_
      refine g_goto (pc := 25) 29 d_M_roomOf_25 (by decide) ?_
      refine g_lv [0, 1, 2] rfl ?_
      exact t_M_roomOf_29  _ _ _ _ _ _ _  hf
def f_M_roomOf (a0 : Nat) (a1 : Int32) (a2 : Int32) (h : mH) : Option (Int32 × mH) := f_M_roomOf_0 a0 a1 a2 h
theorem c_M_roomOf {sc : Nat × (Nat → Int32)} {a0 : Nat} {a1 : Int32} {a2 : Int32} {h : mH} {r : Int32} {h' : mH} (hf : f_M_roomOf a0 a1 a2 h = some (r, h')) : MM sc y_M_roomOf prog_10_method_31_code 5 (some .int) 1 22 [.ref a0, .int a1, .int a2] h (some (.int r)) h' :=
  mm_of_G (by decide) (Nat.le_of_ble_eq_true rfl) (t_M_roomOf_0 _ _ _ _ _ _ hf)
/-! M allBy (I)I -/
set_option maxRecDepth 100000 in
theorem dd_M_allBy_0 : (decode prog_10_method_28_code 0 = .ok (.iconst 0, 1)) ∧ (decode prog_10_method_28_code 1 = .ok (.istore_n 2, 1)) ∧ (decode prog_10_method_28_code 2 = .ok (.iconst 0, 1)) ∧ (decode prog_10_method_28_code 3 = .ok (.istore_n 3, 1)) ∧ (decode prog_10_method_28_code 4 = .ok (.iload_n 3, 1)) ∧ (decode prog_10_method_28_code 5 = .ok (.aload_n 0, 1)) ∧ (decode prog_10_method_28_code 6 = .ok (.getfield 106, 3)) ∧ (decode prog_10_method_28_code 9 = .ok (.if_icmp .ge 18, 3)) ∧ (decode prog_10_method_28_code 12 = .ok (.iload_n 2, 1)) ∧ (decode prog_10_method_28_code 13 = .ok (.aload_n 0, 1)) ∧ (decode prog_10_method_28_code 14 = .ok (.iload_n 1, 1)) ∧ (decode prog_10_method_28_code 15 = .ok (.iload_n 3, 1)) ∧ (decode prog_10_method_28_code 16 = .ok (.invokevirtual 188, 3)) ∧ (decode prog_10_method_28_code 19 = .ok (.iadd, 1)) ∧ (decode prog_10_method_28_code 20 = .ok (.istore_n 2, 1)) ∧ (decode prog_10_method_28_code 21 = .ok (.iinc 3 1, 3)) ∧ (decode prog_10_method_28_code 24 = .ok (.goto (-20), 3)) ∧ (decode prog_10_method_28_code 27 = .ok (.iload_n 2, 1)) ∧ (decode prog_10_method_28_code 28 = .ok (.ireturn, 1)) := by
  have h : List.drop 0 prog_10_method_28_code.data.toList = 0x03 :: _ := rfl
  refine ⟨zq_k_n 3 h rfl (zq_o_3 _), ?_⟩
  replace h := zq_nx1 (q := 1) h rfl
  refine ⟨zq_k_n 61 h rfl (zq_o_61 _), ?_⟩
  replace h := zq_nx1 (q := 2) h rfl
  refine ⟨zq_k_n 3 h rfl (zq_o_3 _), ?_⟩
  replace h := zq_nx1 (q := 3) h rfl
  refine ⟨zq_k_n 62 h rfl (zq_o_62 _), ?_⟩
  replace h := zq_nx1 (q := 4) h rfl
  refine ⟨zq_k_n 29 h rfl (zq_o_29 _), ?_⟩
  replace h := zq_nx1 (q := 5) h rfl
  refine ⟨zq_k_n 42 h rfl (zq_o_42 _), ?_⟩
  replace h := zq_nx1 (q := 6) h rfl
  refine ⟨zq_k_u2 180 (fun z => .getfield z) 106 h rfl (zq_o_180 _) (by decide +kernel), ?_⟩
  replace h := zq_nx3 (q := 9) h rfl
  refine ⟨zq_k_s2 162 (fun z => .if_icmp .ge z) 18 h rfl (zq_o_162 _) (by decide +kernel), ?_⟩
  replace h := zq_nx3 (q := 12) h rfl
  refine ⟨zq_k_n 28 h rfl (zq_o_28 _), ?_⟩
  replace h := zq_nx1 (q := 13) h rfl
  refine ⟨zq_k_n 42 h rfl (zq_o_42 _), ?_⟩
  replace h := zq_nx1 (q := 14) h rfl
  refine ⟨zq_k_n 27 h rfl (zq_o_27 _), ?_⟩
  replace h := zq_nx1 (q := 15) h rfl
  refine ⟨zq_k_n 29 h rfl (zq_o_29 _), ?_⟩
  replace h := zq_nx1 (q := 16) h rfl
  refine ⟨zq_k_u2 182 (fun z => .invokevirtual z) 188 h rfl (zq_o_182 _) (by decide +kernel), ?_⟩
  replace h := zq_nx3 (q := 19) h rfl
  refine ⟨zq_k_n 96 h rfl (zq_o_96 _), ?_⟩
  replace h := zq_nx1 (q := 20) h rfl
  refine ⟨zq_k_n 61 h rfl (zq_o_61 _), ?_⟩
  replace h := zq_nx1 (q := 21) h rfl
  refine ⟨zq_k_iinc 3 1 h rfl (zq_o_132 _) (by decide +kernel) (by decide +kernel), ?_⟩
  replace h := zq_nx3 (q := 24) h rfl
  refine ⟨zq_k_s2 167 (fun z => .goto z) (-20) h rfl (zq_o_167 _) (by decide +kernel), ?_⟩
  replace h := zq_nx3 (q := 27) h rfl
  refine ⟨zq_k_n 28 h rfl (zq_o_28 _), ?_⟩
  replace h := zq_nx1 (q := 28) h rfl
  exact zq_k_n 172 h rfl (zq_o_172 _)
theorem d_M_allBy_0 : decode prog_10_method_28_code 0 = .ok (.iconst 0, 1) := dd_M_allBy_0.1
theorem d_M_allBy_1 : decode prog_10_method_28_code 1 = .ok (.istore_n 2, 1) := dd_M_allBy_0.2.1
theorem d_M_allBy_2 : decode prog_10_method_28_code 2 = .ok (.iconst 0, 1) := dd_M_allBy_0.2.2.1
theorem d_M_allBy_3 : decode prog_10_method_28_code 3 = .ok (.istore_n 3, 1) := dd_M_allBy_0.2.2.2.1
theorem d_M_allBy_4 : decode prog_10_method_28_code 4 = .ok (.iload_n 3, 1) := dd_M_allBy_0.2.2.2.2.1
theorem d_M_allBy_5 : decode prog_10_method_28_code 5 = .ok (.aload_n 0, 1) := dd_M_allBy_0.2.2.2.2.2.1
theorem d_M_allBy_6 : decode prog_10_method_28_code 6 = .ok (.getfield 106, 3) := dd_M_allBy_0.2.2.2.2.2.2.1
theorem d_M_allBy_9 : decode prog_10_method_28_code 9 = .ok (.if_icmp .ge 18, 3) := dd_M_allBy_0.2.2.2.2.2.2.2.1
theorem d_M_allBy_12 : decode prog_10_method_28_code 12 = .ok (.iload_n 2, 1) := dd_M_allBy_0.2.2.2.2.2.2.2.2.1
theorem d_M_allBy_13 : decode prog_10_method_28_code 13 = .ok (.aload_n 0, 1) := dd_M_allBy_0.2.2.2.2.2.2.2.2.2.1
theorem d_M_allBy_14 : decode prog_10_method_28_code 14 = .ok (.iload_n 1, 1) := dd_M_allBy_0.2.2.2.2.2.2.2.2.2.2.1
theorem d_M_allBy_15 : decode prog_10_method_28_code 15 = .ok (.iload_n 3, 1) := dd_M_allBy_0.2.2.2.2.2.2.2.2.2.2.2.1
theorem d_M_allBy_16 : decode prog_10_method_28_code 16 = .ok (.invokevirtual 188, 3) := dd_M_allBy_0.2.2.2.2.2.2.2.2.2.2.2.2.1
theorem d_M_allBy_19 : decode prog_10_method_28_code 19 = .ok (.iadd, 1) := dd_M_allBy_0.2.2.2.2.2.2.2.2.2.2.2.2.2.1
theorem d_M_allBy_20 : decode prog_10_method_28_code 20 = .ok (.istore_n 2, 1) := dd_M_allBy_0.2.2.2.2.2.2.2.2.2.2.2.2.2.2.1
theorem d_M_allBy_21 : decode prog_10_method_28_code 21 = .ok (.iinc 3 1, 3) := dd_M_allBy_0.2.2.2.2.2.2.2.2.2.2.2.2.2.2.2.1
theorem d_M_allBy_24 : decode prog_10_method_28_code 24 = .ok (.goto (-20), 3) := dd_M_allBy_0.2.2.2.2.2.2.2.2.2.2.2.2.2.2.2.2.1
theorem d_M_allBy_27 : decode prog_10_method_28_code 27 = .ok (.iload_n 2, 1) := dd_M_allBy_0.2.2.2.2.2.2.2.2.2.2.2.2.2.2.2.2.2.1
theorem d_M_allBy_28 : decode prog_10_method_28_code 28 = .ok (.ireturn, 1) := dd_M_allBy_0.2.2.2.2.2.2.2.2.2.2.2.2.2.2.2.2.2.2
def f_M_allBy_4b (rec4 : Nat → Int32 → Int32 → Int32 → mH → Option (Int32 × mH)) (b0 : Nat) (b1 : Int32) (b2 : Int32) (b3 : Int32) (h : mH) : Option (Int32 × mH) :=
  bd1 (gI h b0 8 2) fun x1 =>
  if x1 ≤ b3 then
    some (b2, h)
  else
    bd1 (kC h b0 8) fun _ =>
    bd2 (f_M_brokenBy b0 b1 b3 h) fun x7 h5 =>
    rec4 b0 b1 (b2 + x7) (b3 + (1 : Int32)) h5
set_option maxRecDepth 20000 in
theorem t_M_allBy_4b {sc : Nat × (Nat → Int32)} (rec4 : Nat → Int32 → Int32 → Int32 → mH → Option (Int32 × mH)) (hrec4 : ∀ (b0 : Nat) (b1 : Int32) (b2 : Int32) (b3 : Int32) (h : mH) (r : Int32) (h' : mH), rec4 b0 b1 b2 b3 h = some (r, h') → G sc y_M_allBy prog_10_method_28_code 4 (some .int) 1 22 4 [(0, .ref b0), (1, .int b1), (2, .int b2), (3, .int b3)] [] h (some (.int r)) h') (b0 : Nat) (b1 : Int32) (b2 : Int32) (b3 : Int32) (h : mH) (r : Int32) (h' : mH) (hf : f_M_allBy_4b rec4 b0 b1 b2 b3 h = some (r, h')) : G sc y_M_allBy prog_10_method_28_code 4 (some .int) 1 22 4 [(0, .ref b0), (1, .int b1), (2, .int b2), (3, .int b3)] [] h (some (.int r)) h' := by
  unfold f_M_allBy_4b at hf
  refine g_iload_n (pc := 4) 3 d_M_allBy_4 rfl rfl ?_
  refine g_aload_n (pc := 5) 0 d_M_allBy_5 rfl rfl ?_
  obtain ⟨x1, e2, hf⟩ := bd1_e hf
  refine g_get (pc := 6) (ci := 8) (kk := 2) d_M_allBy_6 rfl in_M (by decide) wd_940 (gI_spec e2) ?_
  refine g_icmpge (pc := 9) 27 d_M_allBy_9 (by decide) (fun c8 => ?_) (fun c8 => ?_)
  · replace hf := (if_pos c8).symm.trans hf
    refine g_iload_n (pc := 27) 2 d_M_allBy_27 rfl rfl ?_
    obtain ⟨rfl, rfl⟩ := ret2 hf
    exact g_iret (pc := 28) rfl d_M_allBy_28
  · replace hf := (if_neg c8).symm.trans hf
    refine g_iload_n (pc := 12) 2 d_M_allBy_12 rfl rfl ?_
    refine g_aload_n (pc := 13) 0 d_M_allBy_13 rfl rfl ?_
    refine g_iload_n (pc := 14) 1 d_M_allBy_14 rfl rfl ?_
    refine g_iload_n (pc := 15) 3 d_M_allBy_15 rfl rfl ?_
    obtain ⟨u4, e3, hf⟩ := bd1_e hf
    obtain ⟨x7, h5, e6, hf⟩ := bd2_e hf
    refine g_callV (pc := 16) (ci := 8) [.int b1, .int b3] (site_of si_M_brokenBy (by decide) (by decide)) wd_1148 wd_1150 wp_47 d_M_allBy_16 rfl e3 (Nat.le_of_ble_eq_true rfl) (fun z => absurd z (by decide)) (fun z => absurd z (by decide)) (fun z => absurd z (by decide)) (c_M_brokenBy e6) rfl ?_
    refine g_st [.int x7, .int b2] rfl ?_
    refine g_iadd (pc := 19) d_M_allBy_19 ?_
    refine g_istore_n (pc := 20) [(2, .int (b2 + x7)), (0, .ref b0), (1, .int b1), (3, .int b3)] d_M_allBy_20 rfl (Nat.le_of_ble_eq_true rfl) rfl ?_
    refine g_iinc (pc := 21) 3 (b3 + (1 : Int32)) [(3, .int (b3 + (1 : Int32))), (2, .int (b2 + x7)), (0, .ref b0), (1, .int b1)] d_M_allBy_21 rfl rfl (Nat.le_of_ble_eq_true rfl) rfl ?_
    refine g_goto (pc := 24) 4 d_M_allBy_24 (by decide) ?_
    refine g_lv [2, 3, 1, 0] rfl ?_
    exact hrec4 _ _ _ _ _ _ _  hf
def f_M_allBy_4  : Nat → Nat → Int32 → Int32 → Int32 → mH → Option (Int32 × mH)
  | 0 => fun _ _ _ _ _ => none
  | n + 1 => f_M_allBy_4b  (f_M_allBy_4  n)
theorem t_M_allBy_4 {sc : Nat × (Nat → Int32)}  : ∀ (n : Nat) (b0 : Nat) (b1 : Int32) (b2 : Int32) (b3 : Int32) (h : mH) (r : Int32) (h' : mH) (hf : f_M_allBy_4  n b0 b1 b2 b3 h = some (r, h')), G sc y_M_allBy prog_10_method_28_code 4 (some .int) 1 22 4 [(0, .ref b0), (1, .int b1), (2, .int b2), (3, .int b3)] [] h (some (.int r)) h'
  | 0, _, _, _, _, _, _, _, hf => by cases hf
  | n + 1, _, _, _, _, _, _, _, hf => t_M_allBy_4b  (f_M_allBy_4  n) (t_M_allBy_4  n) _ _ _ _ _ _ _ hf
def f_M_allBy_0  (a0 : Nat) (a1 : Int32) (h : mH) : Option (Int32 × mH) :=
  f_M_allBy_4  FU a0 a1 (0 : Int32) (0 : Int32) h
set_option maxRecDepth 20000 in
theorem t_M_allBy_0 {sc : Nat × (Nat → Int32)}  (a0 : Nat) (a1 : Int32) (h : mH) (r : Int32) (h' : mH) (hf : f_M_allBy_0  a0 a1 h = some (r, h')) : G sc y_M_allBy prog_10_method_28_code 4 (some .int) 1 22 0 [(0, .ref a0), (1, .int a1)] [] h (some (.int r)) h' := by
  unfold f_M_allBy_0 at hf
  refine g_iconst (pc := 0) (0 : Int32) d_M_allBy_0 (by decide) ?_
  refine g_istore_n (pc := 1) [(2, .int (0 : Int32)), (0, .ref a0), (1, .int a1)] d_M_allBy_1 rfl (Nat.le_of_ble_eq_true rfl) rfl ?_
  refine g_iconst (pc := 2) (0 : Int32) d_M_allBy_2 (by decide) ?_
  refine g_istore_n (pc := 3) [(3, .int (0 : Int32)), (2, .int (0 : Int32)), (0, .ref a0), (1, .int a1)] d_M_allBy_3 rfl (Nat.le_of_ble_eq_true rfl) rfl ?_
  refine g_lv [2, 3, 1, 0] rfl ?_
  exact t_M_allBy_4  FU _ _ _ _ _ _ _  hf
def f_M_allBy (a0 : Nat) (a1 : Int32) (h : mH) : Option (Int32 × mH) := f_M_allBy_0 a0 a1 h
theorem c_M_allBy {sc : Nat × (Nat → Int32)} {a0 : Nat} {a1 : Int32} {h : mH} {r : Int32} {h' : mH} (hf : f_M_allBy a0 a1 h = some (r, h')) : MM sc y_M_allBy prog_10_method_28_code 4 (some .int) 1 22 [.ref a0, .int a1] h (some (.int r)) h' :=
  mm_of_G (by decide) (Nat.le_of_ble_eq_true rfl) (t_M_allBy_0 _ _ _ _ _ hf)
/-! M timeLeft (I)I -/
set_option maxRecDepth 100000 in
theorem dd_M_timeLeft_0 : (decode prog_10_method_32_code 0 = .ok (.aload_n 0, 1)) ∧ (decode prog_10_method_32_code 1 = .ok (.getfield 7, 3)) ∧ (decode prog_10_method_32_code 4 = .ok (.bipush 12, 2)) ∧ (decode prog_10_method_32_code 6 = .ok (.iload_n 1, 1)) ∧ (decode prog_10_method_32_code 7 = .ok (.iadd, 1)) ∧ (decode prog_10_method_32_code 8 = .ok (.iaload, 1)) ∧ (decode prog_10_method_32_code 9 = .ok (.aload_n 0, 1)) ∧ (decode prog_10_method_32_code 10 = .ok (.iload_n 1, 1)) ∧ (decode prog_10_method_32_code 11 = .ok (.invokevirtual 195, 3)) ∧ (decode prog_10_method_32_code 14 = .ok (.isub, 1)) ∧ (decode prog_10_method_32_code 15 = .ok (.istore_n 2, 1)) ∧ (decode prog_10_method_32_code 16 = .ok (.iload_n 2, 1)) ∧ (decode prog_10_method_32_code 17 = .ok (.ifCond .ge 7, 3)) ∧ (decode prog_10_method_32_code 20 = .ok (.iconst 0, 1)) ∧ (decode prog_10_method_32_code 21 = .ok (.goto 4, 3)) ∧ (decode prog_10_method_32_code 24 = .ok (.iload_n 2, 1)) ∧ (decode prog_10_method_32_code 25 = .ok (.ireturn, 1)) := by
  have h : List.drop 0 prog_10_method_32_code.data.toList = 0x2a :: _ := rfl
  refine ⟨zq_k_n 42 h rfl (zq_o_42 _), ?_⟩
  replace h := zq_nx1 (q := 1) h rfl
  refine ⟨zq_k_u2 180 (fun z => .getfield z) 7 h rfl (zq_o_180 _) (by decide +kernel), ?_⟩
  replace h := zq_nx3 (q := 4) h rfl
  refine ⟨zq_k_s1 16 (fun z => .bipush z) 12 h rfl (zq_o_16 _) (by decide +kernel), ?_⟩
  replace h := zq_nx2 (q := 6) h rfl
  refine ⟨zq_k_n 27 h rfl (zq_o_27 _), ?_⟩
  replace h := zq_nx1 (q := 7) h rfl
  refine ⟨zq_k_n 96 h rfl (zq_o_96 _), ?_⟩
  replace h := zq_nx1 (q := 8) h rfl
  refine ⟨zq_k_n 46 h rfl (zq_o_46 _), ?_⟩
  replace h := zq_nx1 (q := 9) h rfl
  refine ⟨zq_k_n 42 h rfl (zq_o_42 _), ?_⟩
  replace h := zq_nx1 (q := 10) h rfl
  refine ⟨zq_k_n 27 h rfl (zq_o_27 _), ?_⟩
  replace h := zq_nx1 (q := 11) h rfl
  refine ⟨zq_k_u2 182 (fun z => .invokevirtual z) 195 h rfl (zq_o_182 _) (by decide +kernel), ?_⟩
  replace h := zq_nx3 (q := 14) h rfl
  refine ⟨zq_k_n 100 h rfl (zq_o_100 _), ?_⟩
  replace h := zq_nx1 (q := 15) h rfl
  refine ⟨zq_k_n 61 h rfl (zq_o_61 _), ?_⟩
  replace h := zq_nx1 (q := 16) h rfl
  refine ⟨zq_k_n 28 h rfl (zq_o_28 _), ?_⟩
  replace h := zq_nx1 (q := 17) h rfl
  refine ⟨zq_k_s2 156 (fun z => .ifCond .ge z) 7 h rfl (zq_o_156 _) (by decide +kernel), ?_⟩
  replace h := zq_nx3 (q := 20) h rfl
  refine ⟨zq_k_n 3 h rfl (zq_o_3 _), ?_⟩
  replace h := zq_nx1 (q := 21) h rfl
  refine ⟨zq_k_s2 167 (fun z => .goto z) 4 h rfl (zq_o_167 _) (by decide +kernel), ?_⟩
  replace h := zq_nx3 (q := 24) h rfl
  refine ⟨zq_k_n 28 h rfl (zq_o_28 _), ?_⟩
  replace h := zq_nx1 (q := 25) h rfl
  exact zq_k_n 172 h rfl (zq_o_172 _)
theorem d_M_timeLeft_0 : decode prog_10_method_32_code 0 = .ok (.aload_n 0, 1) := dd_M_timeLeft_0.1
theorem d_M_timeLeft_1 : decode prog_10_method_32_code 1 = .ok (.getfield 7, 3) := dd_M_timeLeft_0.2.1
theorem d_M_timeLeft_4 : decode prog_10_method_32_code 4 = .ok (.bipush 12, 2) := dd_M_timeLeft_0.2.2.1
theorem d_M_timeLeft_6 : decode prog_10_method_32_code 6 = .ok (.iload_n 1, 1) := dd_M_timeLeft_0.2.2.2.1
theorem d_M_timeLeft_7 : decode prog_10_method_32_code 7 = .ok (.iadd, 1) := dd_M_timeLeft_0.2.2.2.2.1
theorem d_M_timeLeft_8 : decode prog_10_method_32_code 8 = .ok (.iaload, 1) := dd_M_timeLeft_0.2.2.2.2.2.1
theorem d_M_timeLeft_9 : decode prog_10_method_32_code 9 = .ok (.aload_n 0, 1) := dd_M_timeLeft_0.2.2.2.2.2.2.1
theorem d_M_timeLeft_10 : decode prog_10_method_32_code 10 = .ok (.iload_n 1, 1) := dd_M_timeLeft_0.2.2.2.2.2.2.2.1
theorem d_M_timeLeft_11 : decode prog_10_method_32_code 11 = .ok (.invokevirtual 195, 3) := dd_M_timeLeft_0.2.2.2.2.2.2.2.2.1
theorem d_M_timeLeft_14 : decode prog_10_method_32_code 14 = .ok (.isub, 1) := dd_M_timeLeft_0.2.2.2.2.2.2.2.2.2.1
theorem d_M_timeLeft_15 : decode prog_10_method_32_code 15 = .ok (.istore_n 2, 1) := dd_M_timeLeft_0.2.2.2.2.2.2.2.2.2.2.1
theorem d_M_timeLeft_16 : decode prog_10_method_32_code 16 = .ok (.iload_n 2, 1) := dd_M_timeLeft_0.2.2.2.2.2.2.2.2.2.2.2.1
theorem d_M_timeLeft_17 : decode prog_10_method_32_code 17 = .ok (.ifCond .ge 7, 3) := dd_M_timeLeft_0.2.2.2.2.2.2.2.2.2.2.2.2.1
theorem d_M_timeLeft_20 : decode prog_10_method_32_code 20 = .ok (.iconst 0, 1) := dd_M_timeLeft_0.2.2.2.2.2.2.2.2.2.2.2.2.2.1
theorem d_M_timeLeft_21 : decode prog_10_method_32_code 21 = .ok (.goto 4, 3) := dd_M_timeLeft_0.2.2.2.2.2.2.2.2.2.2.2.2.2.2.1
theorem d_M_timeLeft_24 : decode prog_10_method_32_code 24 = .ok (.iload_n 2, 1) := dd_M_timeLeft_0.2.2.2.2.2.2.2.2.2.2.2.2.2.2.2.1
theorem d_M_timeLeft_25 : decode prog_10_method_32_code 25 = .ok (.ireturn, 1) := dd_M_timeLeft_0.2.2.2.2.2.2.2.2.2.2.2.2.2.2.2.2
def f_M_timeLeft_0  (a0 : Nat) (a1 : Int32) (h : mH) : Option (Int32 × mH) :=
  bd1 (gR h a0 8 0) fun x1 =>
  bd1 (aI h 0 x1 ((12 : Int32) + a1)) fun x3 =>
  bd1 (kC h a0 8) fun _ =>
  bd2 (f_M_allBy a0 a1 h) fun x9 h7 =>
  if 0 ≤ (x3 - x9) then
    some (x3 - x9, h7)
  else
    some ((0 : Int32), h7)
set_option maxRecDepth 20000 in
theorem t_M_timeLeft_0 {sc : Nat × (Nat → Int32)}  (a0 : Nat) (a1 : Int32) (h : mH) (r : Int32) (h' : mH) (hf : f_M_timeLeft_0  a0 a1 h = some (r, h')) : G sc y_M_timeLeft prog_10_method_32_code 3 (some .int) 2 45 0 [(0, .ref a0), (1, .int a1)] [] h (some (.int r)) h' := by
  unfold f_M_timeLeft_0 at hf
  refine g_aload_n (pc := 0) 0 d_M_timeLeft_0 rfl rfl ?_
  obtain ⟨x1, e2, hf⟩ := bd1_e hf
  refine g_get (pc := 1) (ci := 8) (kk := 0) d_M_timeLeft_1 rfl in_M (by decide) wd_938 (gR_spec e2) ?_
  refine g_bipush (pc := 4) (12 : Int32) d_M_timeLeft_4 (by decide) ?_
  refine g_iload_n (pc := 6) 1 d_M_timeLeft_6 rfl rfl ?_
  refine g_iadd (pc := 7) d_M_timeLeft_7 ?_
  obtain ⟨x3, e4, hf⟩ := bd1_e hf
  refine g_iald (pc := 8) d_M_timeLeft_8 e4 ?_
  refine g_aload_n (pc := 9) 0 d_M_timeLeft_9 rfl rfl ?_
  refine g_iload_n (pc := 10) 1 d_M_timeLeft_10 rfl rfl ?_
  obtain ⟨u6, e5, hf⟩ := bd1_e hf
  obtain ⟨x9, h7, e8, hf⟩ := bd2_e hf
  refine g_callV (pc := 11) (ci := 8) [.int a1] (site_of si_M_allBy (by decide) (by decide)) wd_1176 wd_1178 wp_53 d_M_timeLeft_11 rfl e5 (Nat.le_of_ble_eq_true rfl) (fun z => absurd z (by decide)) (fun z => absurd z (by decide)) (fun z => absurd z (by decide)) (c_M_allBy e8) rfl ?_
  refine g_st [.int x9, .int x3] rfl ?_
  refine g_isub (pc := 14) d_M_timeLeft_14 ?_
  refine g_istore_n (pc := 15) [(2, .int (x3 - x9)), (0, .ref a0), (1, .int a1)] d_M_timeLeft_15 rfl (Nat.le_of_ble_eq_true rfl) rfl ?_
  refine g_iload_n (pc := 16) 0 d_M_timeLeft_16 rfl rfl ?_
  refine g_ifge (pc := 17) 24 d_M_timeLeft_17 (by decide) (fun c10 => ?_) (fun c10 => ?_)
  · replace hf := (if_pos c10).symm.trans hf
    refine g_iload_n (pc := 24) 0 d_M_timeLeft_24 rfl rfl ?_
    obtain ⟨rfl, rfl⟩ := ret2 hf
    exact g_iret (pc := 25) rfl d_M_timeLeft_25
  · replace hf := (if_neg c10).symm.trans hf
    refine g_iconst (pc := 20) (0 : Int32) d_M_timeLeft_20 (by decide) ?_
    refine g_goto (pc := 21) 25 d_M_timeLeft_21 (by decide) ?_
    obtain ⟨rfl, rfl⟩ := ret2 hf
    exact g_iret (pc := 25) rfl d_M_timeLeft_25
def f_M_timeLeft (a0 : Nat) (a1 : Int32) (h : mH) : Option (Int32 × mH) := f_M_timeLeft_0 a0 a1 h
theorem c_M_timeLeft {sc : Nat × (Nat → Int32)} {a0 : Nat} {a1 : Int32} {h : mH} {r : Int32} {h' : mH} (hf : f_M_timeLeft a0 a1 h = some (r, h')) : MM sc y_M_timeLeft prog_10_method_32_code 3 (some .int) 2 45 [.ref a0, .int a1] h (some (.int r)) h' :=
  mm_of_G (by decide) (Nat.le_of_ble_eq_true rfl) (t_M_timeLeft_0 _ _ _ _ _ hf)
/-! M canBreak (II)Z -/
set_option maxRecDepth 100000 in
theorem dd_M_canBreak_0 : (decode prog_10_method_33_code 0 = .ok (.aload_n 0, 1)) ∧ (decode prog_10_method_33_code 1 = .ok (.iload_n 1, 1)) ∧ (decode prog_10_method_33_code 2 = .ok (.iload_n 2, 1)) ∧ (decode prog_10_method_33_code 3 = .ok (.invokevirtual 198, 3)) ∧ (decode prog_10_method_33_code 6 = .ok (.ifCond .le 15, 3)) ∧ (decode prog_10_method_33_code 9 = .ok (.aload_n 0, 1)) ∧ (decode prog_10_method_33_code 10 = .ok (.iload_n 1, 1)) ∧ (decode prog_10_method_33_code 11 = .ok (.invokevirtual 201, 3)) ∧ (decode prog_10_method_33_code 14 = .ok (.ifCond .le 7, 3)) ∧ (decode prog_10_method_33_code 17 = .ok (.iconst 1, 1)) ∧ (decode prog_10_method_33_code 18 = .ok (.goto 4, 3)) ∧ (decode prog_10_method_33_code 21 = .ok (.iconst 0, 1)) ∧ (decode prog_10_method_33_code 22 = .ok (.ireturn, 1)) := by
  have h : List.drop 0 prog_10_method_33_code.data.toList = 0x2a :: _ := rfl
  refine ⟨zq_k_n 42 h rfl (zq_o_42 _), ?_⟩
  replace h := zq_nx1 (q := 1) h rfl
  refine ⟨zq_k_n 27 h rfl (zq_o_27 _), ?_⟩
  replace h := zq_nx1 (q := 2) h rfl
  refine ⟨zq_k_n 28 h rfl (zq_o_28 _), ?_⟩
  replace h := zq_nx1 (q := 3) h rfl
  refine ⟨zq_k_u2 182 (fun z => .invokevirtual z) 198 h rfl (zq_o_182 _) (by decide +kernel), ?_⟩
  replace h := zq_nx3 (q := 6) h rfl
  refine ⟨zq_k_s2 158 (fun z => .ifCond .le z) 15 h rfl (zq_o_158 _) (by decide +kernel), ?_⟩
  replace h := zq_nx3 (q := 9) h rfl
  refine ⟨zq_k_n 42 h rfl (zq_o_42 _), ?_⟩
  replace h := zq_nx1 (q := 10) h rfl
  refine ⟨zq_k_n 27 h rfl (zq_o_27 _), ?_⟩
  replace h := zq_nx1 (q := 11) h rfl
  refine ⟨zq_k_u2 182 (fun z => .invokevirtual z) 201 h rfl (zq_o_182 _) (by decide +kernel), ?_⟩
  replace h := zq_nx3 (q := 14) h rfl
  refine ⟨zq_k_s2 158 (fun z => .ifCond .le z) 7 h rfl (zq_o_158 _) (by decide +kernel), ?_⟩
  replace h := zq_nx3 (q := 17) h rfl
  refine ⟨zq_k_n 4 h rfl (zq_o_4 _), ?_⟩
  replace h := zq_nx1 (q := 18) h rfl
  refine ⟨zq_k_s2 167 (fun z => .goto z) 4 h rfl (zq_o_167 _) (by decide +kernel), ?_⟩
  replace h := zq_nx3 (q := 21) h rfl
  refine ⟨zq_k_n 3 h rfl (zq_o_3 _), ?_⟩
  replace h := zq_nx1 (q := 22) h rfl
  exact zq_k_n 172 h rfl (zq_o_172 _)
theorem d_M_canBreak_0 : decode prog_10_method_33_code 0 = .ok (.aload_n 0, 1) := dd_M_canBreak_0.1
theorem d_M_canBreak_1 : decode prog_10_method_33_code 1 = .ok (.iload_n 1, 1) := dd_M_canBreak_0.2.1
theorem d_M_canBreak_2 : decode prog_10_method_33_code 2 = .ok (.iload_n 2, 1) := dd_M_canBreak_0.2.2.1
theorem d_M_canBreak_3 : decode prog_10_method_33_code 3 = .ok (.invokevirtual 198, 3) := dd_M_canBreak_0.2.2.2.1
theorem d_M_canBreak_6 : decode prog_10_method_33_code 6 = .ok (.ifCond .le 15, 3) := dd_M_canBreak_0.2.2.2.2.1
theorem d_M_canBreak_9 : decode prog_10_method_33_code 9 = .ok (.aload_n 0, 1) := dd_M_canBreak_0.2.2.2.2.2.1
theorem d_M_canBreak_10 : decode prog_10_method_33_code 10 = .ok (.iload_n 1, 1) := dd_M_canBreak_0.2.2.2.2.2.2.1
theorem d_M_canBreak_11 : decode prog_10_method_33_code 11 = .ok (.invokevirtual 201, 3) := dd_M_canBreak_0.2.2.2.2.2.2.2.1
theorem d_M_canBreak_14 : decode prog_10_method_33_code 14 = .ok (.ifCond .le 7, 3) := dd_M_canBreak_0.2.2.2.2.2.2.2.2.1
theorem d_M_canBreak_17 : decode prog_10_method_33_code 17 = .ok (.iconst 1, 1) := dd_M_canBreak_0.2.2.2.2.2.2.2.2.2.1
theorem d_M_canBreak_18 : decode prog_10_method_33_code 18 = .ok (.goto 4, 3) := dd_M_canBreak_0.2.2.2.2.2.2.2.2.2.2.1
theorem d_M_canBreak_21 : decode prog_10_method_33_code 21 = .ok (.iconst 0, 1) := dd_M_canBreak_0.2.2.2.2.2.2.2.2.2.2.2.1
theorem d_M_canBreak_22 : decode prog_10_method_33_code 22 = .ok (.ireturn, 1) := dd_M_canBreak_0.2.2.2.2.2.2.2.2.2.2.2.2
def f_M_canBreak_21   (h : mH) : Option (Int32 × mH) :=
  some ((0 : Int32), h)
set_option maxRecDepth 20000 in
theorem t_M_canBreak_21 {sc : Nat × (Nat → Int32)}   (h : mH) (r : Int32) (h' : mH) (hf : f_M_canBreak_21   h = some (r, h')) : G sc y_M_canBreak prog_10_method_33_code 3 (some .boolean) 3 67 21 [] [] h (some (.int r)) h' := by
  unfold f_M_canBreak_21 at hf
  refine g_iconst (pc := 21) (0 : Int32) d_M_canBreak_21 (by decide) ?_
  obtain ⟨rfl, rfl⟩ := ret2 hf
  exact g_zret (pc := 22) rfl rfl d_M_canBreak_22
def f_M_canBreak_0  (a0 : Nat) (a1 : Int32) (a2 : Int32) (h : mH) : Option (Int32 × mH) :=
  bd1 (kC h a0 8) fun _ =>
  bd2 (f_M_roomOf a0 a1 a2 h) fun x5 h3 =>
  if x5 ≤ 0 then
    f_M_canBreak_21  h3
  else
    bd1 (kC h3 a0 8) fun _ =>
    bd2 (f_M_timeLeft a0 a1 h3) fun x10 h8 =>
    if x10 ≤ 0 then
      f_M_canBreak_21  h8
    else
      some ((1 : Int32), h8)
set_option maxRecDepth 20000 in
theorem t_M_canBreak_0 {sc : Nat × (Nat → Int32)}  (a0 : Nat) (a1 : Int32) (a2 : Int32) (h : mH) (r : Int32) (h' : mH) (hf : f_M_canBreak_0  a0 a1 a2 h = some (r, h')) : G sc y_M_canBreak prog_10_method_33_code 3 (some .boolean) 3 67 0 [(0, .ref a0), (1, .int a1), (2, .int a2)] [] h (some (.int r)) h' := by
  unfold f_M_canBreak_0 at hf
  refine g_aload_n (pc := 0) 0 d_M_canBreak_0 rfl rfl ?_
  refine g_iload_n (pc := 1) 1 d_M_canBreak_1 rfl rfl ?_
  refine g_iload_n (pc := 2) 2 d_M_canBreak_2 rfl rfl ?_
  obtain ⟨u2, e1, hf⟩ := bd1_e hf
  obtain ⟨x5, h3, e4, hf⟩ := bd2_e hf
  refine g_callV (pc := 3) (ci := 8) [.int a1, .int a2] (site_of si_M_roomOf (by decide) (by decide)) wd_1168 wd_1170 wp_51 d_M_canBreak_3 rfl e1 (Nat.le_of_ble_eq_true rfl) (fun z => absurd z (by decide)) (fun z => absurd z (by decide)) (fun z => absurd z (by decide)) (c_M_roomOf e4) rfl ?_
  refine g_st [.int x5] rfl ?_
  refine g_ifle (pc := 6) 21 d_M_canBreak_6 (by decide) (fun c12 => ?_) (fun c12 => ?_)
  · replace hf := (if_pos c12).symm.trans hf
    refine g_lv [] rfl ?_
    exact t_M_canBreak_21  _ _ _  hf
  · replace hf := (if_neg c12).symm.trans hf
    refine g_aload_n (pc := 9) 0 d_M_canBreak_9 rfl rfl ?_
    refine g_iload_n (pc := 10) 1 d_M_canBreak_10 rfl rfl ?_
    obtain ⟨u7, e6, hf⟩ := bd1_e hf
    obtain ⟨x10, h8, e9, hf⟩ := bd2_e hf
    refine g_callV (pc := 11) (ci := 8) [.int a1] (site_of si_M_timeLeft (by decide) (by decide)) wd_1172 wd_1174 wp_52 d_M_canBreak_11 rfl e6 (Nat.le_of_ble_eq_true rfl) (fun z => absurd z (by decide)) (fun z => absurd z (by decide)) (fun z => absurd z (by decide)) (c_M_timeLeft e9) rfl ?_
    refine g_st [.int x10] rfl ?_
    refine g_ifle (pc := 14) 21 d_M_canBreak_14 (by decide) (fun c11 => ?_) (fun c11 => ?_)
    · replace hf := (if_pos c11).symm.trans hf
      refine g_lv [] rfl ?_
      exact t_M_canBreak_21  _ _ _  hf
    · replace hf := (if_neg c11).symm.trans hf
      refine g_iconst (pc := 17) (1 : Int32) d_M_canBreak_17 (by decide) ?_
      refine g_goto (pc := 18) 22 d_M_canBreak_18 (by decide) ?_
      obtain ⟨rfl, rfl⟩ := ret2 hf
      exact g_zret (pc := 22) rfl rfl d_M_canBreak_22
def f_M_canBreak (a0 : Nat) (a1 : Int32) (a2 : Int32) (h : mH) : Option (Int32 × mH) := f_M_canBreak_0 a0 a1 a2 h
theorem c_M_canBreak {sc : Nat × (Nat → Int32)} {a0 : Nat} {a1 : Int32} {a2 : Int32} {h : mH} {r : Int32} {h' : mH} (hf : f_M_canBreak a0 a1 a2 h = some (r, h')) : MM sc y_M_canBreak prog_10_method_33_code 3 (some .boolean) 3 67 [.ref a0, .int a1, .int a2] h (some (.int r)) h' :=
  mm_of_G (by decide) (Nat.le_of_ble_eq_true rfl) (t_M_canBreak_0 _ _ _ _ _ _ hf)
/-! M flag (Z)I -/
set_option maxRecDepth 100000 in
theorem dd_M_flag_0 : (decode prog_10_method_4_code 0 = .ok (.iload_n 0, 1)) ∧ (decode prog_10_method_4_code 1 = .ok (.ifCond .eq 7, 3)) ∧ (decode prog_10_method_4_code 4 = .ok (.iconst 1, 1)) ∧ (decode prog_10_method_4_code 5 = .ok (.goto 4, 3)) ∧ (decode prog_10_method_4_code 8 = .ok (.iconst 0, 1)) ∧ (decode prog_10_method_4_code 9 = .ok (.ireturn, 1)) := by
  have h : List.drop 0 prog_10_method_4_code.data.toList = 0x1a :: _ := rfl
  refine ⟨zq_k_n 26 h rfl (zq_o_26 _), ?_⟩
  replace h := zq_nx1 (q := 1) h rfl
  refine ⟨zq_k_s2 153 (fun z => .ifCond .eq z) 7 h rfl (zq_o_153 _) (by decide +kernel), ?_⟩
  replace h := zq_nx3 (q := 4) h rfl
  refine ⟨zq_k_n 4 h rfl (zq_o_4 _), ?_⟩
  replace h := zq_nx1 (q := 5) h rfl
  refine ⟨zq_k_s2 167 (fun z => .goto z) 4 h rfl (zq_o_167 _) (by decide +kernel), ?_⟩
  replace h := zq_nx3 (q := 8) h rfl
  refine ⟨zq_k_n 3 h rfl (zq_o_3 _), ?_⟩
  replace h := zq_nx1 (q := 9) h rfl
  exact zq_k_n 172 h rfl (zq_o_172 _)
theorem d_M_flag_0 : decode prog_10_method_4_code 0 = .ok (.iload_n 0, 1) := dd_M_flag_0.1
theorem d_M_flag_1 : decode prog_10_method_4_code 1 = .ok (.ifCond .eq 7, 3) := dd_M_flag_0.2.1
theorem d_M_flag_4 : decode prog_10_method_4_code 4 = .ok (.iconst 1, 1) := dd_M_flag_0.2.2.1
theorem d_M_flag_5 : decode prog_10_method_4_code 5 = .ok (.goto 4, 3) := dd_M_flag_0.2.2.2.1
theorem d_M_flag_8 : decode prog_10_method_4_code 8 = .ok (.iconst 0, 1) := dd_M_flag_0.2.2.2.2.1
theorem d_M_flag_9 : decode prog_10_method_4_code 9 = .ok (.ireturn, 1) := dd_M_flag_0.2.2.2.2.2
def f_M_flag_0  (a0 : Int32) (h : mH) : Option (Int32 × mH) :=
  if a0 = 0 then
    some ((0 : Int32), h)
  else
    some ((1 : Int32), h)
set_option maxRecDepth 20000 in
theorem t_M_flag_0 {sc : Nat × (Nat → Int32)}  (a0 : Int32) (h : mH) (r : Int32) (h' : mH) (hf : f_M_flag_0  a0 h = some (r, h')) : G sc y_M_flag prog_10_method_4_code 1 (some .int) 0 0 0 [(0, .int a0)] [] h (some (.int r)) h' := by
  unfold f_M_flag_0 at hf
  refine g_iload_n (pc := 0) 0 d_M_flag_0 rfl rfl ?_
  refine g_ifeq (pc := 1) 8 d_M_flag_1 (by decide) (fun c1 => ?_) (fun c1 => ?_)
  · replace hf := (if_pos c1).symm.trans hf
    refine g_iconst (pc := 8) (0 : Int32) d_M_flag_8 (by decide) ?_
    obtain ⟨rfl, rfl⟩ := ret2 hf
    exact g_iret (pc := 9) rfl d_M_flag_9
  · replace hf := (if_neg c1).symm.trans hf
    refine g_iconst (pc := 4) (1 : Int32) d_M_flag_4 (by decide) ?_
    refine g_goto (pc := 5) 9 d_M_flag_5 (by decide) ?_
    obtain ⟨rfl, rfl⟩ := ret2 hf
    exact g_iret (pc := 9) rfl d_M_flag_9
def f_M_flag (a0 : Int32) (h : mH) : Option (Int32 × mH) := f_M_flag_0 a0 h
theorem c_M_flag {sc : Nat × (Nat → Int32)} {a0 : Int32} {h : mH} {r : Int32} {h' : mH} (hf : f_M_flag a0 h = some (r, h')) : MM sc y_M_flag prog_10_method_4_code 1 (some .int) 0 0 [.int a0] h (some (.int r)) h' :=
  mm_of_G (by decide) (Nat.le_of_ble_eq_true rfl) (t_M_flag_0 _ _ _ _ hf)
/-! M one (II)I -/
set_option maxRecDepth 100000 in
theorem dd_M_one_0 : (decode prog_10_method_37_code 0 = .ok (.aload_n 0, 1)) ∧ (decode prog_10_method_37_code 1 = .ok (.iload_n 1, 1)) ∧ (decode prog_10_method_37_code 2 = .ok (.invokevirtual 213, 3)) ∧ (decode prog_10_method_37_code 5 = .ok (.ifCond .ne 5, 3)) ∧ (decode prog_10_method_37_code 8 = .ok (.iconst (-1), 1)) ∧ (decode prog_10_method_37_code 9 = .ok (.ireturn, 1)) ∧ (decode prog_10_method_37_code 10 = .ok (.iconst 0, 1)) ∧ (decode prog_10_method_37_code 11 = .ok (.istore_n 3, 1)) ∧ (decode prog_10_method_37_code 12 = .ok (.iconst 0, 1)) ∧ (decode prog_10_method_37_code 13 = .ok (.istore 4, 2)) ∧ (decode prog_10_method_37_code 15 = .ok (.iload 4, 2)) ∧ (decode prog_10_method_37_code 17 = .ok (.aload_n 0, 1)) ∧ (decode prog_10_method_37_code 18 = .ok (.getfield 106, 3)) ∧ (decode prog_10_method_37_code 21 = .ok (.if_icmp .ge 25, 3)) ∧ (decode prog_10_method_37_code 24 = .ok (.iload_n 3, 1)) ∧ (decode prog_10_method_37_code 25 = .ok (.aload_n 0, 1)) ∧ (decode prog_10_method_37_code 26 = .ok (.iload_n 1, 1)) ∧ (decode prog_10_method_37_code 27 = .ok (.iload 4, 2)) ∧ (decode prog_10_method_37_code 29 = .ok (.invokevirtual 216, 3)) ∧ (decode prog_10_method_37_code 32 = .ok (.invokestatic 220, 3)) ∧ (decode prog_10_method_37_code 35 = .ok (.iload 4, 2)) ∧ (decode prog_10_method_37_code 37 = .ok (.ishl, 1)) ∧ (decode prog_10_method_37_code 38 = .ok (.ior, 1)) ∧ (decode prog_10_method_37_code 39 = .ok (.istore_n 3, 1)) := by
  have h : List.drop 0 prog_10_method_37_code.data.toList = 0x2a :: _ := rfl
  refine ⟨zq_k_n 42 h rfl (zq_o_42 _), ?_⟩
  replace h := zq_nx1 (q := 1) h rfl
  refine ⟨zq_k_n 27 h rfl (zq_o_27 _), ?_⟩
  replace h := zq_nx1 (q := 2) h rfl
  refine ⟨zq_k_u2 182 (fun z => .invokevirtual z) 213 h rfl (zq_o_182 _) (by decide +kernel), ?_⟩
  replace h := zq_nx3 (q := 5) h rfl
  refine ⟨zq_k_s2 154 (fun z => .ifCond .ne z) 5 h rfl (zq_o_154 _) (by decide +kernel), ?_⟩
  replace h := zq_nx3 (q := 8) h rfl
  refine ⟨zq_k_n 2 h rfl (zq_o_2 _), ?_⟩
  replace h := zq_nx1 (q := 9) h rfl
  refine ⟨zq_k_n 172 h rfl (zq_o_172 _), ?_⟩
  replace h := zq_nx1 (q := 10) h rfl
  refine ⟨zq_k_n 3 h rfl (zq_o_3 _), ?_⟩
  replace h := zq_nx1 (q := 11) h rfl
  refine ⟨zq_k_n 62 h rfl (zq_o_62 _), ?_⟩
  replace h := zq_nx1 (q := 12) h rfl
  refine ⟨zq_k_n 3 h rfl (zq_o_3 _), ?_⟩
  replace h := zq_nx1 (q := 13) h rfl
  refine ⟨zq_k_u1 54 (fun z => .istore z) 4 h rfl (zq_o_54 _) (by decide +kernel), ?_⟩
  replace h := zq_nx2 (q := 15) h rfl
  refine ⟨zq_k_u1 21 (fun z => .iload z) 4 h rfl (zq_o_21 _) (by decide +kernel), ?_⟩
  replace h := zq_nx2 (q := 17) h rfl
  refine ⟨zq_k_n 42 h rfl (zq_o_42 _), ?_⟩
  replace h := zq_nx1 (q := 18) h rfl
  refine ⟨zq_k_u2 180 (fun z => .getfield z) 106 h rfl (zq_o_180 _) (by decide +kernel), ?_⟩
  replace h := zq_nx3 (q := 21) h rfl
  refine ⟨zq_k_s2 162 (fun z => .if_icmp .ge z) 25 h rfl (zq_o_162 _) (by decide +kernel), ?_⟩
  replace h := zq_nx3 (q := 24) h rfl
  refine ⟨zq_k_n 29 h rfl (zq_o_29 _), ?_⟩
  replace h := zq_nx1 (q := 25) h rfl
  refine ⟨zq_k_n 42 h rfl (zq_o_42 _), ?_⟩
  replace h := zq_nx1 (q := 26) h rfl
  refine ⟨zq_k_n 27 h rfl (zq_o_27 _), ?_⟩
  replace h := zq_nx1 (q := 27) h rfl
  refine ⟨zq_k_u1 21 (fun z => .iload z) 4 h rfl (zq_o_21 _) (by decide +kernel), ?_⟩
  replace h := zq_nx2 (q := 29) h rfl
  refine ⟨zq_k_u2 182 (fun z => .invokevirtual z) 216 h rfl (zq_o_182 _) (by decide +kernel), ?_⟩
  replace h := zq_nx3 (q := 32) h rfl
  refine ⟨zq_k_u2 184 (fun z => .invokestatic z) 220 h rfl (zq_o_184 _) (by decide +kernel), ?_⟩
  replace h := zq_nx3 (q := 35) h rfl
  refine ⟨zq_k_u1 21 (fun z => .iload z) 4 h rfl (zq_o_21 _) (by decide +kernel), ?_⟩
  replace h := zq_nx2 (q := 37) h rfl
  refine ⟨zq_k_n 120 h rfl (zq_o_120 _), ?_⟩
  replace h := zq_nx1 (q := 38) h rfl
  refine ⟨zq_k_n 128 h rfl (zq_o_128 _), ?_⟩
  replace h := zq_nx1 (q := 39) h rfl
  exact zq_k_n 62 h rfl (zq_o_62 _)
theorem d_M_one_0 : decode prog_10_method_37_code 0 = .ok (.aload_n 0, 1) := dd_M_one_0.1
theorem d_M_one_1 : decode prog_10_method_37_code 1 = .ok (.iload_n 1, 1) := dd_M_one_0.2.1
theorem d_M_one_2 : decode prog_10_method_37_code 2 = .ok (.invokevirtual 213, 3) := dd_M_one_0.2.2.1
theorem d_M_one_5 : decode prog_10_method_37_code 5 = .ok (.ifCond .ne 5, 3) := dd_M_one_0.2.2.2.1
theorem d_M_one_8 : decode prog_10_method_37_code 8 = .ok (.iconst (-1), 1) := dd_M_one_0.2.2.2.2.1
theorem d_M_one_9 : decode prog_10_method_37_code 9 = .ok (.ireturn, 1) := dd_M_one_0.2.2.2.2.2.1
theorem d_M_one_10 : decode prog_10_method_37_code 10 = .ok (.iconst 0, 1) := dd_M_one_0.2.2.2.2.2.2.1
theorem d_M_one_11 : decode prog_10_method_37_code 11 = .ok (.istore_n 3, 1) := dd_M_one_0.2.2.2.2.2.2.2.1
theorem d_M_one_12 : decode prog_10_method_37_code 12 = .ok (.iconst 0, 1) := dd_M_one_0.2.2.2.2.2.2.2.2.1
theorem d_M_one_13 : decode prog_10_method_37_code 13 = .ok (.istore 4, 2) := dd_M_one_0.2.2.2.2.2.2.2.2.2.1
theorem d_M_one_15 : decode prog_10_method_37_code 15 = .ok (.iload 4, 2) := dd_M_one_0.2.2.2.2.2.2.2.2.2.2.1
theorem d_M_one_17 : decode prog_10_method_37_code 17 = .ok (.aload_n 0, 1) := dd_M_one_0.2.2.2.2.2.2.2.2.2.2.2.1
theorem d_M_one_18 : decode prog_10_method_37_code 18 = .ok (.getfield 106, 3) := dd_M_one_0.2.2.2.2.2.2.2.2.2.2.2.2.1
theorem d_M_one_21 : decode prog_10_method_37_code 21 = .ok (.if_icmp .ge 25, 3) := dd_M_one_0.2.2.2.2.2.2.2.2.2.2.2.2.2.1
theorem d_M_one_24 : decode prog_10_method_37_code 24 = .ok (.iload_n 3, 1) := dd_M_one_0.2.2.2.2.2.2.2.2.2.2.2.2.2.2.1
theorem d_M_one_25 : decode prog_10_method_37_code 25 = .ok (.aload_n 0, 1) := dd_M_one_0.2.2.2.2.2.2.2.2.2.2.2.2.2.2.2.1
theorem d_M_one_26 : decode prog_10_method_37_code 26 = .ok (.iload_n 1, 1) := dd_M_one_0.2.2.2.2.2.2.2.2.2.2.2.2.2.2.2.2.1
theorem d_M_one_27 : decode prog_10_method_37_code 27 = .ok (.iload 4, 2) := dd_M_one_0.2.2.2.2.2.2.2.2.2.2.2.2.2.2.2.2.2.1
theorem d_M_one_29 : decode prog_10_method_37_code 29 = .ok (.invokevirtual 216, 3) := dd_M_one_0.2.2.2.2.2.2.2.2.2.2.2.2.2.2.2.2.2.2.1
theorem d_M_one_32 : decode prog_10_method_37_code 32 = .ok (.invokestatic 220, 3) := dd_M_one_0.2.2.2.2.2.2.2.2.2.2.2.2.2.2.2.2.2.2.2.1
theorem d_M_one_35 : decode prog_10_method_37_code 35 = .ok (.iload 4, 2) := dd_M_one_0.2.2.2.2.2.2.2.2.2.2.2.2.2.2.2.2.2.2.2.2.1
theorem d_M_one_37 : decode prog_10_method_37_code 37 = .ok (.ishl, 1) := dd_M_one_0.2.2.2.2.2.2.2.2.2.2.2.2.2.2.2.2.2.2.2.2.2.1
theorem d_M_one_38 : decode prog_10_method_37_code 38 = .ok (.ior, 1) := dd_M_one_0.2.2.2.2.2.2.2.2.2.2.2.2.2.2.2.2.2.2.2.2.2.2.1
theorem d_M_one_39 : decode prog_10_method_37_code 39 = .ok (.istore_n 3, 1) := dd_M_one_0.2.2.2.2.2.2.2.2.2.2.2.2.2.2.2.2.2.2.2.2.2.2.2
set_option maxRecDepth 100000 in
theorem dd_M_one_40 : (decode prog_10_method_37_code 40 = .ok (.iinc 4 1, 3)) ∧ (decode prog_10_method_37_code 43 = .ok (.goto (-28), 3)) ∧ (decode prog_10_method_37_code 46 = .ok (.iload_n 2, 1)) ∧ (decode prog_10_method_37_code 47 = .ok (.tableswitch 107 0 7 #[45, 55, 62, 69, 79, 89, 99, 105], 45)) ∧ (decode prog_10_method_37_code 92 = .ok (.aload_n 0, 1)) ∧ (decode prog_10_method_37_code 93 = .ok (.getfield 7, 3)) ∧ (decode prog_10_method_37_code 96 = .ok (.bipush 12, 2)) ∧ (decode prog_10_method_37_code 98 = .ok (.iload_n 1, 1)) ∧ (decode prog_10_method_37_code 99 = .ok (.iadd, 1)) ∧ (decode prog_10_method_37_code 100 = .ok (.iaload, 1)) ∧ (decode prog_10_method_37_code 101 = .ok (.ireturn, 1)) ∧ (decode prog_10_method_37_code 102 = .ok (.aload_n 0, 1)) ∧ (decode prog_10_method_37_code 103 = .ok (.getfield 26, 3)) ∧ (decode prog_10_method_37_code 106 = .ok (.iload_n 1, 1)) ∧ (decode prog_10_method_37_code 107 = .ok (.iaload, 1)) ∧ (decode prog_10_method_37_code 108 = .ok (.ireturn, 1)) ∧ (decode prog_10_method_37_code 109 = .ok (.aload_n 0, 1)) ∧ (decode prog_10_method_37_code 110 = .ok (.getfield 29, 3)) ∧ (decode prog_10_method_37_code 113 = .ok (.iload_n 1, 1)) ∧ (decode prog_10_method_37_code 114 = .ok (.iaload, 1)) ∧ (decode prog_10_method_37_code 115 = .ok (.ireturn, 1)) ∧ (decode prog_10_method_37_code 116 = .ok (.aload_n 0, 1)) ∧ (decode prog_10_method_37_code 117 = .ok (.getfield 7, 3)) ∧ (decode prog_10_method_37_code 120 = .ok (.bipush 15, 2)) := by
  have h : List.drop 40 prog_10_method_37_code.data.toList = 0x84 :: _ := rfl
  refine ⟨zq_k_iinc 4 1 h rfl (zq_o_132 _) (by decide +kernel) (by decide +kernel), ?_⟩
  replace h := zq_nx3 (q := 43) h rfl
  refine ⟨zq_k_s2 167 (fun z => .goto z) (-28) h rfl (zq_o_167 _) (by decide +kernel), ?_⟩
  replace h := zq_nx3 (q := 46) h rfl
  refine ⟨zq_k_n 28 h rfl (zq_o_28 _), ?_⟩
  replace h := zq_nx1 (q := 47) h rfl
  refine ⟨by decide +kernel, ?_⟩
  have h : List.drop 92 prog_10_method_37_code.data.toList = 0x2a :: _ := rfl
  refine ⟨zq_k_n 42 h rfl (zq_o_42 _), ?_⟩
  replace h := zq_nx1 (q := 93) h rfl
  refine ⟨zq_k_u2 180 (fun z => .getfield z) 7 h rfl (zq_o_180 _) (by decide +kernel), ?_⟩
  replace h := zq_nx3 (q := 96) h rfl
  refine ⟨zq_k_s1 16 (fun z => .bipush z) 12 h rfl (zq_o_16 _) (by decide +kernel), ?_⟩
  replace h := zq_nx2 (q := 98) h rfl
  refine ⟨zq_k_n 27 h rfl (zq_o_27 _), ?_⟩
  replace h := zq_nx1 (q := 99) h rfl
  refine ⟨zq_k_n 96 h rfl (zq_o_96 _), ?_⟩
  replace h := zq_nx1 (q := 100) h rfl
  refine ⟨zq_k_n 46 h rfl (zq_o_46 _), ?_⟩
  replace h := zq_nx1 (q := 101) h rfl
  refine ⟨zq_k_n 172 h rfl (zq_o_172 _), ?_⟩
  replace h := zq_nx1 (q := 102) h rfl
  refine ⟨zq_k_n 42 h rfl (zq_o_42 _), ?_⟩
  replace h := zq_nx1 (q := 103) h rfl
  refine ⟨zq_k_u2 180 (fun z => .getfield z) 26 h rfl (zq_o_180 _) (by decide +kernel), ?_⟩
  replace h := zq_nx3 (q := 106) h rfl
  refine ⟨zq_k_n 27 h rfl (zq_o_27 _), ?_⟩
  replace h := zq_nx1 (q := 107) h rfl
  refine ⟨zq_k_n 46 h rfl (zq_o_46 _), ?_⟩
  replace h := zq_nx1 (q := 108) h rfl
  refine ⟨zq_k_n 172 h rfl (zq_o_172 _), ?_⟩
  replace h := zq_nx1 (q := 109) h rfl
  refine ⟨zq_k_n 42 h rfl (zq_o_42 _), ?_⟩
  replace h := zq_nx1 (q := 110) h rfl
  refine ⟨zq_k_u2 180 (fun z => .getfield z) 29 h rfl (zq_o_180 _) (by decide +kernel), ?_⟩
  replace h := zq_nx3 (q := 113) h rfl
  refine ⟨zq_k_n 27 h rfl (zq_o_27 _), ?_⟩
  replace h := zq_nx1 (q := 114) h rfl
  refine ⟨zq_k_n 46 h rfl (zq_o_46 _), ?_⟩
  replace h := zq_nx1 (q := 115) h rfl
  refine ⟨zq_k_n 172 h rfl (zq_o_172 _), ?_⟩
  replace h := zq_nx1 (q := 116) h rfl
  refine ⟨zq_k_n 42 h rfl (zq_o_42 _), ?_⟩
  replace h := zq_nx1 (q := 117) h rfl
  refine ⟨zq_k_u2 180 (fun z => .getfield z) 7 h rfl (zq_o_180 _) (by decide +kernel), ?_⟩
  replace h := zq_nx3 (q := 120) h rfl
  exact zq_k_s1 16 (fun z => .bipush z) 15 h rfl (zq_o_16 _) (by decide +kernel)
theorem d_M_one_40 : decode prog_10_method_37_code 40 = .ok (.iinc 4 1, 3) := dd_M_one_40.1
theorem d_M_one_43 : decode prog_10_method_37_code 43 = .ok (.goto (-28), 3) := dd_M_one_40.2.1
theorem d_M_one_46 : decode prog_10_method_37_code 46 = .ok (.iload_n 2, 1) := dd_M_one_40.2.2.1
theorem d_M_one_47 : decode prog_10_method_37_code 47 = .ok (.tableswitch 107 0 7 #[45, 55, 62, 69, 79, 89, 99, 105], 45) := dd_M_one_40.2.2.2.1
theorem d_M_one_92 : decode prog_10_method_37_code 92 = .ok (.aload_n 0, 1) := dd_M_one_40.2.2.2.2.1
theorem d_M_one_93 : decode prog_10_method_37_code 93 = .ok (.getfield 7, 3) := dd_M_one_40.2.2.2.2.2.1
theorem d_M_one_96 : decode prog_10_method_37_code 96 = .ok (.bipush 12, 2) := dd_M_one_40.2.2.2.2.2.2.1
theorem d_M_one_98 : decode prog_10_method_37_code 98 = .ok (.iload_n 1, 1) := dd_M_one_40.2.2.2.2.2.2.2.1
theorem d_M_one_99 : decode prog_10_method_37_code 99 = .ok (.iadd, 1) := dd_M_one_40.2.2.2.2.2.2.2.2.1
theorem d_M_one_100 : decode prog_10_method_37_code 100 = .ok (.iaload, 1) := dd_M_one_40.2.2.2.2.2.2.2.2.2.1
theorem d_M_one_101 : decode prog_10_method_37_code 101 = .ok (.ireturn, 1) := dd_M_one_40.2.2.2.2.2.2.2.2.2.2.1
theorem d_M_one_102 : decode prog_10_method_37_code 102 = .ok (.aload_n 0, 1) := dd_M_one_40.2.2.2.2.2.2.2.2.2.2.2.1
theorem d_M_one_103 : decode prog_10_method_37_code 103 = .ok (.getfield 26, 3) := dd_M_one_40.2.2.2.2.2.2.2.2.2.2.2.2.1
theorem d_M_one_106 : decode prog_10_method_37_code 106 = .ok (.iload_n 1, 1) := dd_M_one_40.2.2.2.2.2.2.2.2.2.2.2.2.2.1
theorem d_M_one_107 : decode prog_10_method_37_code 107 = .ok (.iaload, 1) := dd_M_one_40.2.2.2.2.2.2.2.2.2.2.2.2.2.2.1
theorem d_M_one_108 : decode prog_10_method_37_code 108 = .ok (.ireturn, 1) := dd_M_one_40.2.2.2.2.2.2.2.2.2.2.2.2.2.2.2.1
theorem d_M_one_109 : decode prog_10_method_37_code 109 = .ok (.aload_n 0, 1) := dd_M_one_40.2.2.2.2.2.2.2.2.2.2.2.2.2.2.2.2.1
theorem d_M_one_110 : decode prog_10_method_37_code 110 = .ok (.getfield 29, 3) := dd_M_one_40.2.2.2.2.2.2.2.2.2.2.2.2.2.2.2.2.2.1
theorem d_M_one_113 : decode prog_10_method_37_code 113 = .ok (.iload_n 1, 1) := dd_M_one_40.2.2.2.2.2.2.2.2.2.2.2.2.2.2.2.2.2.2.1
theorem d_M_one_114 : decode prog_10_method_37_code 114 = .ok (.iaload, 1) := dd_M_one_40.2.2.2.2.2.2.2.2.2.2.2.2.2.2.2.2.2.2.2.1
theorem d_M_one_115 : decode prog_10_method_37_code 115 = .ok (.ireturn, 1) := dd_M_one_40.2.2.2.2.2.2.2.2.2.2.2.2.2.2.2.2.2.2.2.2.1
theorem d_M_one_116 : decode prog_10_method_37_code 116 = .ok (.aload_n 0, 1) := dd_M_one_40.2.2.2.2.2.2.2.2.2.2.2.2.2.2.2.2.2.2.2.2.2.1
theorem d_M_one_117 : decode prog_10_method_37_code 117 = .ok (.getfield 7, 3) := dd_M_one_40.2.2.2.2.2.2.2.2.2.2.2.2.2.2.2.2.2.2.2.2.2.2.1
theorem d_M_one_120 : decode prog_10_method_37_code 120 = .ok (.bipush 15, 2) := dd_M_one_40.2.2.2.2.2.2.2.2.2.2.2.2.2.2.2.2.2.2.2.2.2.2.2
set_option maxRecDepth 100000 in
theorem dd_M_one_122 : (decode prog_10_method_37_code 122 = .ok (.iload_n 1, 1)) ∧ (decode prog_10_method_37_code 123 = .ok (.iadd, 1)) ∧ (decode prog_10_method_37_code 124 = .ok (.iaload, 1)) ∧ (decode prog_10_method_37_code 125 = .ok (.ireturn, 1)) ∧ (decode prog_10_method_37_code 126 = .ok (.aload_n 0, 1)) ∧ (decode prog_10_method_37_code 127 = .ok (.getfield 7, 3)) ∧ (decode prog_10_method_37_code 130 = .ok (.bipush 18, 2)) ∧ (decode prog_10_method_37_code 132 = .ok (.iload_n 1, 1)) ∧ (decode prog_10_method_37_code 133 = .ok (.iadd, 1)) ∧ (decode prog_10_method_37_code 134 = .ok (.iaload, 1)) ∧ (decode prog_10_method_37_code 135 = .ok (.ireturn, 1)) ∧ (decode prog_10_method_37_code 136 = .ok (.aload_n 0, 1)) ∧ (decode prog_10_method_37_code 137 = .ok (.getfield 7, 3)) ∧ (decode prog_10_method_37_code 140 = .ok (.bipush 21, 2)) ∧ (decode prog_10_method_37_code 142 = .ok (.iload_n 1, 1)) ∧ (decode prog_10_method_37_code 143 = .ok (.iadd, 1)) ∧ (decode prog_10_method_37_code 144 = .ok (.iaload, 1)) ∧ (decode prog_10_method_37_code 145 = .ok (.ireturn, 1)) ∧ (decode prog_10_method_37_code 146 = .ok (.aload_n 0, 1)) ∧ (decode prog_10_method_37_code 147 = .ok (.iload_n 1, 1)) ∧ (decode prog_10_method_37_code 148 = .ok (.invokevirtual 195, 3)) ∧ (decode prog_10_method_37_code 151 = .ok (.ireturn, 1)) ∧ (decode prog_10_method_37_code 152 = .ok (.iload_n 3, 1)) ∧ (decode prog_10_method_37_code 153 = .ok (.ireturn, 1)) := by
  have h : List.drop 122 prog_10_method_37_code.data.toList = 0x1b :: _ := rfl
  refine ⟨zq_k_n 27 h rfl (zq_o_27 _), ?_⟩
  replace h := zq_nx1 (q := 123) h rfl
  refine ⟨zq_k_n 96 h rfl (zq_o_96 _), ?_⟩
  replace h := zq_nx1 (q := 124) h rfl
  refine ⟨zq_k_n 46 h rfl (zq_o_46 _), ?_⟩
  replace h := zq_nx1 (q := 125) h rfl
  refine ⟨zq_k_n 172 h rfl (zq_o_172 _), ?_⟩
  replace h := zq_nx1 (q := 126) h rfl
  refine ⟨zq_k_n 42 h rfl (zq_o_42 _), ?_⟩
  replace h := zq_nx1 (q := 127) h rfl
  refine ⟨zq_k_u2 180 (fun z => .getfield z) 7 h rfl (zq_o_180 _) (by decide +kernel), ?_⟩
  replace h := zq_nx3 (q := 130) h rfl
  refine ⟨zq_k_s1 16 (fun z => .bipush z) 18 h rfl (zq_o_16 _) (by decide +kernel), ?_⟩
  replace h := zq_nx2 (q := 132) h rfl
  refine ⟨zq_k_n 27 h rfl (zq_o_27 _), ?_⟩
  replace h := zq_nx1 (q := 133) h rfl
  refine ⟨zq_k_n 96 h rfl (zq_o_96 _), ?_⟩
  replace h := zq_nx1 (q := 134) h rfl
  refine ⟨zq_k_n 46 h rfl (zq_o_46 _), ?_⟩
  replace h := zq_nx1 (q := 135) h rfl
  refine ⟨zq_k_n 172 h rfl (zq_o_172 _), ?_⟩
  replace h := zq_nx1 (q := 136) h rfl
  refine ⟨zq_k_n 42 h rfl (zq_o_42 _), ?_⟩
  replace h := zq_nx1 (q := 137) h rfl
  refine ⟨zq_k_u2 180 (fun z => .getfield z) 7 h rfl (zq_o_180 _) (by decide +kernel), ?_⟩
  replace h := zq_nx3 (q := 140) h rfl
  refine ⟨zq_k_s1 16 (fun z => .bipush z) 21 h rfl (zq_o_16 _) (by decide +kernel), ?_⟩
  replace h := zq_nx2 (q := 142) h rfl
  refine ⟨zq_k_n 27 h rfl (zq_o_27 _), ?_⟩
  replace h := zq_nx1 (q := 143) h rfl
  refine ⟨zq_k_n 96 h rfl (zq_o_96 _), ?_⟩
  replace h := zq_nx1 (q := 144) h rfl
  refine ⟨zq_k_n 46 h rfl (zq_o_46 _), ?_⟩
  replace h := zq_nx1 (q := 145) h rfl
  refine ⟨zq_k_n 172 h rfl (zq_o_172 _), ?_⟩
  replace h := zq_nx1 (q := 146) h rfl
  refine ⟨zq_k_n 42 h rfl (zq_o_42 _), ?_⟩
  replace h := zq_nx1 (q := 147) h rfl
  refine ⟨zq_k_n 27 h rfl (zq_o_27 _), ?_⟩
  replace h := zq_nx1 (q := 148) h rfl
  refine ⟨zq_k_u2 182 (fun z => .invokevirtual z) 195 h rfl (zq_o_182 _) (by decide +kernel), ?_⟩
  replace h := zq_nx3 (q := 151) h rfl
  refine ⟨zq_k_n 172 h rfl (zq_o_172 _), ?_⟩
  replace h := zq_nx1 (q := 152) h rfl
  refine ⟨zq_k_n 29 h rfl (zq_o_29 _), ?_⟩
  replace h := zq_nx1 (q := 153) h rfl
  exact zq_k_n 172 h rfl (zq_o_172 _)
theorem d_M_one_122 : decode prog_10_method_37_code 122 = .ok (.iload_n 1, 1) := dd_M_one_122.1
theorem d_M_one_123 : decode prog_10_method_37_code 123 = .ok (.iadd, 1) := dd_M_one_122.2.1
theorem d_M_one_124 : decode prog_10_method_37_code 124 = .ok (.iaload, 1) := dd_M_one_122.2.2.1
theorem d_M_one_125 : decode prog_10_method_37_code 125 = .ok (.ireturn, 1) := dd_M_one_122.2.2.2.1
theorem d_M_one_126 : decode prog_10_method_37_code 126 = .ok (.aload_n 0, 1) := dd_M_one_122.2.2.2.2.1
theorem d_M_one_127 : decode prog_10_method_37_code 127 = .ok (.getfield 7, 3) := dd_M_one_122.2.2.2.2.2.1
theorem d_M_one_130 : decode prog_10_method_37_code 130 = .ok (.bipush 18, 2) := dd_M_one_122.2.2.2.2.2.2.1
theorem d_M_one_132 : decode prog_10_method_37_code 132 = .ok (.iload_n 1, 1) := dd_M_one_122.2.2.2.2.2.2.2.1
theorem d_M_one_133 : decode prog_10_method_37_code 133 = .ok (.iadd, 1) := dd_M_one_122.2.2.2.2.2.2.2.2.1
theorem d_M_one_134 : decode prog_10_method_37_code 134 = .ok (.iaload, 1) := dd_M_one_122.2.2.2.2.2.2.2.2.2.1
theorem d_M_one_135 : decode prog_10_method_37_code 135 = .ok (.ireturn, 1) := dd_M_one_122.2.2.2.2.2.2.2.2.2.2.1
theorem d_M_one_136 : decode prog_10_method_37_code 136 = .ok (.aload_n 0, 1) := dd_M_one_122.2.2.2.2.2.2.2.2.2.2.2.1
theorem d_M_one_137 : decode prog_10_method_37_code 137 = .ok (.getfield 7, 3) := dd_M_one_122.2.2.2.2.2.2.2.2.2.2.2.2.1
theorem d_M_one_140 : decode prog_10_method_37_code 140 = .ok (.bipush 21, 2) := dd_M_one_122.2.2.2.2.2.2.2.2.2.2.2.2.2.1
theorem d_M_one_142 : decode prog_10_method_37_code 142 = .ok (.iload_n 1, 1) := dd_M_one_122.2.2.2.2.2.2.2.2.2.2.2.2.2.2.1
theorem d_M_one_143 : decode prog_10_method_37_code 143 = .ok (.iadd, 1) := dd_M_one_122.2.2.2.2.2.2.2.2.2.2.2.2.2.2.2.1
theorem d_M_one_144 : decode prog_10_method_37_code 144 = .ok (.iaload, 1) := dd_M_one_122.2.2.2.2.2.2.2.2.2.2.2.2.2.2.2.2.1
theorem d_M_one_145 : decode prog_10_method_37_code 145 = .ok (.ireturn, 1) := dd_M_one_122.2.2.2.2.2.2.2.2.2.2.2.2.2.2.2.2.2.1
theorem d_M_one_146 : decode prog_10_method_37_code 146 = .ok (.aload_n 0, 1) := dd_M_one_122.2.2.2.2.2.2.2.2.2.2.2.2.2.2.2.2.2.2.1
theorem d_M_one_147 : decode prog_10_method_37_code 147 = .ok (.iload_n 1, 1) := dd_M_one_122.2.2.2.2.2.2.2.2.2.2.2.2.2.2.2.2.2.2.2.1
theorem d_M_one_148 : decode prog_10_method_37_code 148 = .ok (.invokevirtual 195, 3) := dd_M_one_122.2.2.2.2.2.2.2.2.2.2.2.2.2.2.2.2.2.2.2.2.1
theorem d_M_one_151 : decode prog_10_method_37_code 151 = .ok (.ireturn, 1) := dd_M_one_122.2.2.2.2.2.2.2.2.2.2.2.2.2.2.2.2.2.2.2.2.2.1
theorem d_M_one_152 : decode prog_10_method_37_code 152 = .ok (.iload_n 3, 1) := dd_M_one_122.2.2.2.2.2.2.2.2.2.2.2.2.2.2.2.2.2.2.2.2.2.2.1
theorem d_M_one_153 : decode prog_10_method_37_code 153 = .ok (.ireturn, 1) := dd_M_one_122.2.2.2.2.2.2.2.2.2.2.2.2.2.2.2.2.2.2.2.2.2.2.2
set_option maxRecDepth 100000 in
theorem dd_M_one_154 : (decode prog_10_method_37_code 154 = .ok (.iconst (-1), 1)) ∧ (decode prog_10_method_37_code 155 = .ok (.ireturn, 1)) := by
  have h : List.drop 154 prog_10_method_37_code.data.toList = 0x02 :: _ := rfl
  refine ⟨zq_k_n 2 h rfl (zq_o_2 _), ?_⟩
  replace h := zq_nx1 (q := 155) h rfl
  exact zq_k_n 172 h rfl (zq_o_172 _)
theorem d_M_one_154 : decode prog_10_method_37_code 154 = .ok (.iconst (-1), 1) := dd_M_one_154.1
theorem d_M_one_155 : decode prog_10_method_37_code 155 = .ok (.ireturn, 1) := dd_M_one_154.2
def f_M_one_15b (rec15 : Nat → Int32 → Int32 → Int32 → Int32 → mH → Option (Int32 × mH)) (b0 : Nat) (b1 : Int32) (b2 : Int32) (b3 : Int32) (b4 : Int32) (h : mH) : Option (Int32 × mH) :=
  bd1 (gI h b0 8 2) fun x7 =>
  if x7 ≤ b4 then
    if b2 = (0 : Int32) then
      bd1 (gR h b0 8 0) fun x10 =>
      bd1 (aI h 0 x10 ((12 : Int32) + b1)) fun x12 =>
      some (x12, h)
    else
    if b2 = (1 : Int32) then
      bd1 (gR h b0 8 7) fun x15 =>
      bd1 (aI h 0 x15 b1) fun x17 =>
      some (x17, h)
    else
    if b2 = (2 : Int32) then
      bd1 (gR h b0 8 8) fun x20 =>
      bd1 (aI h 0 x20 b1) fun x22 =>
      some (x22, h)
    else
    if b2 = (3 : Int32) then
      bd1 (gR h b0 8 0) fun x25 =>
      bd1 (aI h 0 x25 ((15 : Int32) + b1)) fun x27 =>
      some (x27, h)
    else
    if b2 = (4 : Int32) then
      bd1 (gR h b0 8 0) fun x30 =>
      bd1 (aI h 0 x30 ((18 : Int32) + b1)) fun x32 =>
      some (x32, h)
    else
    if b2 = (5 : Int32) then
      bd1 (gR h b0 8 0) fun x35 =>
      bd1 (aI h 0 x35 ((21 : Int32) + b1)) fun x37 =>
      some (x37, h)
    else
    if b2 = (6 : Int32) then
      bd1 (kC h b0 8) fun _ =>
      bd2 (f_M_allBy b0 b1 h) fun x44 h42 =>
      some (x44, h42)
    else
    if b2 = (7 : Int32) then
      some (b3, h)
    else
    some (((-1) : Int32), h)
  else
    bd1 (kC h b0 8) fun _ =>
    bd2 (f_M_canBreak b0 b1 b4 h) fun x50 h48 =>
    bd2 (f_M_flag x50 h48) fun x53 h51 =>
    rec15 b0 b1 b2 (b3 ||| (x53 <<< (b4 &&& 31))) (b4 + (1 : Int32)) h51
set_option maxRecDepth 20000 in
theorem t_M_one_15b {sc : Nat × (Nat → Int32)} (rec15 : Nat → Int32 → Int32 → Int32 → Int32 → mH → Option (Int32 × mH)) (hrec15 : ∀ (b0 : Nat) (b1 : Int32) (b2 : Int32) (b3 : Int32) (b4 : Int32) (h : mH) (r : Int32) (h' : mH), rec15 b0 b1 b2 b3 b4 h = some (r, h') → G sc y_M_one prog_10_method_37_code 5 (some .int) 4 89 15 [(0, .ref b0), (1, .int b1), (2, .int b2), (3, .int b3), (4, .int b4)] [] h (some (.int r)) h') (b0 : Nat) (b1 : Int32) (b2 : Int32) (b3 : Int32) (b4 : Int32) (h : mH) (r : Int32) (h' : mH) (hf : f_M_one_15b rec15 b0 b1 b2 b3 b4 h = some (r, h')) : G sc y_M_one prog_10_method_37_code 5 (some .int) 4 89 15 [(0, .ref b0), (1, .int b1), (2, .int b2), (3, .int b3), (4, .int b4)] [] h (some (.int r)) h' := by
  unfold f_M_one_15b at hf
  refine g_iload (pc := 15) 4 d_M_one_15 rfl ?_
  refine g_aload_n (pc := 17) 0 d_M_one_17 rfl rfl ?_
  obtain ⟨x7, e8, hf⟩ := bd1_e hf
  refine g_get (pc := 18) (ci := 8) (kk := 2) d_M_one_18 rfl in_M (by decide) wd_940 (gI_spec e8) ?_
  refine g_icmpge (pc := 21) 46 d_M_one_21 (by decide) (fun c54 => ?_) (fun c54 => ?_)
  · replace hf := (if_pos c54).symm.trans hf
    refine g_iload_n (pc := 46) 2 d_M_one_46 rfl rfl ?_
    by_cases c9 : b2 = (0 : Int32)
    · replace hf := (if_pos c9).symm.trans hf
      refine g_tabIn (pc := 47) 92 (0 : Int32) d_M_one_47 c9 (by decide) (by decide) rfl (by decide) ?_
      refine g_aload_n (pc := 92) 0 d_M_one_92 rfl rfl ?_
      obtain ⟨x10, e11, hf⟩ := bd1_e hf
      refine g_get (pc := 93) (ci := 8) (kk := 0) d_M_one_93 rfl in_M (by decide) wd_938 (gR_spec e11) ?_
      refine g_bipush (pc := 96) (12 : Int32) d_M_one_96 (by decide) ?_
      refine g_iload_n (pc := 98) 1 d_M_one_98 rfl rfl ?_
      refine g_iadd (pc := 99) d_M_one_99 ?_
      obtain ⟨x12, e13, hf⟩ := bd1_e hf
      refine g_iald (pc := 100) d_M_one_100 e13 ?_
      obtain ⟨rfl, rfl⟩ := ret2 hf
      exact g_iret (pc := 101) rfl d_M_one_101
    replace hf := (if_neg c9).symm.trans hf
    by_cases c14 : b2 = (1 : Int32)
    · replace hf := (if_pos c14).symm.trans hf
      refine g_tabIn (pc := 47) 102 (1 : Int32) d_M_one_47 c14 (by decide) (by decide) rfl (by decide) ?_
      refine g_aload_n (pc := 102) 0 d_M_one_102 rfl rfl ?_
      obtain ⟨x15, e16, hf⟩ := bd1_e hf
      refine g_get (pc := 103) (ci := 8) (kk := 7) d_M_one_103 rfl in_M (by decide) wd_945 (gR_spec e16) ?_
      refine g_iload_n (pc := 106) 1 d_M_one_106 rfl rfl ?_
      obtain ⟨x17, e18, hf⟩ := bd1_e hf
      refine g_iald (pc := 107) d_M_one_107 e18 ?_
      obtain ⟨rfl, rfl⟩ := ret2 hf
      exact g_iret (pc := 108) rfl d_M_one_108
    replace hf := (if_neg c14).symm.trans hf
    by_cases c19 : b2 = (2 : Int32)
    · replace hf := (if_pos c19).symm.trans hf
      refine g_tabIn (pc := 47) 109 (2 : Int32) d_M_one_47 c19 (by decide) (by decide) rfl (by decide) ?_
      refine g_aload_n (pc := 109) 0 d_M_one_109 rfl rfl ?_
      obtain ⟨x20, e21, hf⟩ := bd1_e hf
      refine g_get (pc := 110) (ci := 8) (kk := 8) d_M_one_110 rfl in_M (by decide) wd_946 (gR_spec e21) ?_
      refine g_iload_n (pc := 113) 1 d_M_one_113 rfl rfl ?_
      obtain ⟨x22, e23, hf⟩ := bd1_e hf
      refine g_iald (pc := 114) d_M_one_114 e23 ?_
      obtain ⟨rfl, rfl⟩ := ret2 hf
      exact g_iret (pc := 115) rfl d_M_one_115
    replace hf := (if_neg c19).symm.trans hf
    by_cases c24 : b2 = (3 : Int32)
    · replace hf := (if_pos c24).symm.trans hf
      refine g_tabIn (pc := 47) 116 (3 : Int32) d_M_one_47 c24 (by decide) (by decide) rfl (by decide) ?_
      refine g_aload_n (pc := 116) 0 d_M_one_116 rfl rfl ?_
      obtain ⟨x25, e26, hf⟩ := bd1_e hf
      refine g_get (pc := 117) (ci := 8) (kk := 0) d_M_one_117 rfl in_M (by decide) wd_938 (gR_spec e26) ?_
      refine g_bipush (pc := 120) (15 : Int32) d_M_one_120 (by decide) ?_
      refine g_iload_n (pc := 122) 1 d_M_one_122 rfl rfl ?_
      refine g_iadd (pc := 123) d_M_one_123 ?_
      obtain ⟨x27, e28, hf⟩ := bd1_e hf
      refine g_iald (pc := 124) d_M_one_124 e28 ?_
      obtain ⟨rfl, rfl⟩ := ret2 hf
      exact g_iret (pc := 125) rfl d_M_one_125
    replace hf := (if_neg c24).symm.trans hf
    by_cases c29 : b2 = (4 : Int32)
    · replace hf := (if_pos c29).symm.trans hf
      refine g_tabIn (pc := 47) 126 (4 : Int32) d_M_one_47 c29 (by decide) (by decide) rfl (by decide) ?_
      refine g_aload_n (pc := 126) 0 d_M_one_126 rfl rfl ?_
      obtain ⟨x30, e31, hf⟩ := bd1_e hf
      refine g_get (pc := 127) (ci := 8) (kk := 0) d_M_one_127 rfl in_M (by decide) wd_938 (gR_spec e31) ?_
      refine g_bipush (pc := 130) (18 : Int32) d_M_one_130 (by decide) ?_
      refine g_iload_n (pc := 132) 1 d_M_one_132 rfl rfl ?_
      refine g_iadd (pc := 133) d_M_one_133 ?_
      obtain ⟨x32, e33, hf⟩ := bd1_e hf
      refine g_iald (pc := 134) d_M_one_134 e33 ?_
      obtain ⟨rfl, rfl⟩ := ret2 hf
      exact g_iret (pc := 135) rfl d_M_one_135
    replace hf := (if_neg c29).symm.trans hf
    by_cases c34 : b2 = (5 : Int32)
    · replace hf := (if_pos c34).symm.trans hf
      refine g_tabIn (pc := 47) 136 (5 : Int32) d_M_one_47 c34 (by decide) (by decide) rfl (by decide) ?_
      refine g_aload_n (pc := 136) 0 d_M_one_136 rfl rfl ?_
      obtain ⟨x35, e36, hf⟩ := bd1_e hf
      refine g_get (pc := 137) (ci := 8) (kk := 0) d_M_one_137 rfl in_M (by decide) wd_938 (gR_spec e36) ?_
      refine g_bipush (pc := 140) (21 : Int32) d_M_one_140 (by decide) ?_
      refine g_iload_n (pc := 142) 1 d_M_one_142 rfl rfl ?_
      refine g_iadd (pc := 143) d_M_one_143 ?_
      obtain ⟨x37, e38, hf⟩ := bd1_e hf
      refine g_iald (pc := 144) d_M_one_144 e38 ?_
      obtain ⟨rfl, rfl⟩ := ret2 hf
      exact g_iret (pc := 145) rfl d_M_one_145
    replace hf := (if_neg c34).symm.trans hf
    by_cases c39 : b2 = (6 : Int32)
    · replace hf := (if_pos c39).symm.trans hf
      refine g_tabIn (pc := 47) 146 (6 : Int32) d_M_one_47 c39 (by decide) (by decide) rfl (by decide) ?_
      refine g_aload_n (pc := 146) 0 d_M_one_146 rfl rfl ?_
      refine g_iload_n (pc := 147) 1 d_M_one_147 rfl rfl ?_
      obtain ⟨u41, e40, hf⟩ := bd1_e hf
      obtain ⟨x44, h42, e43, hf⟩ := bd2_e hf
      refine g_callV (pc := 148) (ci := 8) [.int b1] (site_of si_M_allBy (by decide) (by decide)) wd_1176 wd_1178 wp_53 d_M_one_148 rfl e40 (Nat.le_of_ble_eq_true rfl) (fun z => absurd z (by decide)) (fun z => absurd z (by decide)) (fun z => absurd z (by decide)) (c_M_allBy e43) rfl ?_
      refine g_st [.int x44] rfl ?_
      obtain ⟨rfl, rfl⟩ := ret2 hf
      exact g_iret (pc := 151) rfl d_M_one_151
    replace hf := (if_neg c39).symm.trans hf
    by_cases c45 : b2 = (7 : Int32)
    · replace hf := (if_pos c45).symm.trans hf
      refine g_tabIn (pc := 47) 152 (7 : Int32) d_M_one_47 c45 (by decide) (by decide) rfl (by decide) ?_
      refine g_iload_n (pc := 152) 3 d_M_one_152 rfl rfl ?_
      obtain ⟨rfl, rfl⟩ := ret2 hf
      exact g_iret (pc := 153) rfl d_M_one_153
    replace hf := (if_neg c45).symm.trans hf
    refine g_tabOut (pc := 47) 154 8 d_M_one_47 (by decide) (fun i hi => ?_) (by decide) ?_
    · rcases (show i = 0 ∨ i = 1 ∨ i = 2 ∨ i = 3 ∨ i = 4 ∨ i = 5 ∨ i = 6 ∨ i = 7 by omega) with rfl | rfl | rfl | rfl | rfl | rfl | rfl | rfl
      · exact c9
      · exact c14
      · exact c19
      · exact c24
      · exact c29
      · exact c34
      · exact c39
      · exact c45
    refine g_iconst (pc := 154) ((-1) : Int32) d_M_one_154 (by decide) ?_
    obtain ⟨rfl, rfl⟩ := ret2 hf
    exact g_iret (pc := 155) rfl d_M_one_155
  · replace hf := (if_neg c54).symm.trans hf
    refine g_iload_n (pc := 24) 3 d_M_one_24 rfl rfl ?_
    refine g_aload_n (pc := 25) 0 d_M_one_25 rfl rfl ?_
    refine g_iload_n (pc := 26) 1 d_M_one_26 rfl rfl ?_
    refine g_iload (pc := 27) 4 d_M_one_27 rfl ?_
    obtain ⟨u47, e46, hf⟩ := bd1_e hf
    obtain ⟨x50, h48, e49, hf⟩ := bd2_e hf
    refine g_callV (pc := 29) (ci := 8) [.int b1, .int b4] (site_of si_M_canBreak (by decide) (by decide)) wd_1164 wd_1166 wp_50 d_M_one_29 rfl e46 (Nat.le_of_ble_eq_true rfl) (fun z => absurd z (by decide)) (fun z => absurd z (by decide)) (fun z => absurd z (by decide)) (c_M_canBreak e49) rfl ?_
    refine g_st [.int x50, .int b3] rfl ?_
    obtain ⟨x53, h51, e52, hf⟩ := bd2_e hf
    refine g_callS (pc := 32) [.int x50] (site_of si_M_flag (by decide) (by decide)) wd_1180 wd_1181 d_M_one_32 (Nat.le_of_ble_eq_true rfl) (fun z => absurd z (by decide)) (fun z => absurd z (by decide)) (fun z => absurd z (by decide)) (c_M_flag e52) rfl ?_
    refine g_st [.int x53, .int b3] rfl ?_
    refine g_iload (pc := 35) 4 d_M_one_35 rfl ?_
    refine g_ishl (pc := 37) d_M_one_37 ?_
    refine g_ior (pc := 38) d_M_one_38 ?_
    refine g_istore_n (pc := 39) [(3, .int (b3 ||| (x53 <<< (b4 &&& 31)))), (0, .ref b0), (1, .int b1), (2, .int b2), (4, .int b4)] d_M_one_39 rfl (Nat.le_of_ble_eq_true rfl) rfl ?_
    refine g_iinc (pc := 40) 4 (b4 + (1 : Int32)) [(4, .int (b4 + (1 : Int32))), (3, .int (b3 ||| (x53 <<< (b4 &&& 31)))), (0, .ref b0), (1, .int b1), (2, .int b2)] d_M_one_40 rfl rfl (Nat.le_of_ble_eq_true rfl) rfl ?_
    refine g_goto (pc := 43) 15 d_M_one_43 (by decide) ?_
    refine g_lv [2, 3, 4, 1, 0] rfl ?_
    exact hrec15 _ _ _ _ _ _ _ _  hf
def f_M_one_15  : Nat → Nat → Int32 → Int32 → Int32 → Int32 → mH → Option (Int32 × mH)
  | 0 => fun _ _ _ _ _ _ => none
  | n + 1 => f_M_one_15b  (f_M_one_15  n)
theorem t_M_one_15 {sc : Nat × (Nat → Int32)}  : ∀ (n : Nat) (b0 : Nat) (b1 : Int32) (b2 : Int32) (b3 : Int32) (b4 : Int32) (h : mH) (r : Int32) (h' : mH) (hf : f_M_one_15  n b0 b1 b2 b3 b4 h = some (r, h')), G sc y_M_one prog_10_method_37_code 5 (some .int) 4 89 15 [(0, .ref b0), (1, .int b1), (2, .int b2), (3, .int b3), (4, .int b4)] [] h (some (.int r)) h'
  | 0, _, _, _, _, _, _, _, _, hf => by cases hf
  | n + 1, _, _, _, _, _, _, _, _, hf => t_M_one_15b  (f_M_one_15  n) (t_M_one_15  n) _ _ _ _ _ _ _ _ hf
def f_M_one_0  (a0 : Nat) (a1 : Int32) (a2 : Int32) (h : mH) : Option (Int32 × mH) :=
  bd1 (kC h a0 8) fun _ =>
  bd2 (f_M_isOne a0 a1 h) fun x5 h3 =>
  if x5 = 0 then
    some (((-1) : Int32), h3)
  else
    f_M_one_15  FU a0 a1 a2 (0 : Int32) (0 : Int32) h3
set_option maxRecDepth 20000 in
theorem t_M_one_0 {sc : Nat × (Nat → Int32)}  (a0 : Nat) (a1 : Int32) (a2 : Int32) (h : mH) (r : Int32) (h' : mH) (hf : f_M_one_0  a0 a1 a2 h = some (r, h')) : G sc y_M_one prog_10_method_37_code 5 (some .int) 4 89 0 [(0, .ref a0), (1, .int a1), (2, .int a2)] [] h (some (.int r)) h' := by
  unfold f_M_one_0 at hf
  refine g_aload_n (pc := 0) 0 d_M_one_0 rfl rfl ?_
  refine g_iload_n (pc := 1) 1 d_M_one_1 rfl rfl ?_
  obtain ⟨u2, e1, hf⟩ := bd1_e hf
  obtain ⟨x5, h3, e4, hf⟩ := bd2_e hf
  refine g_callV (pc := 2) (ci := 8) [.int a1] (site_of si_M_isOne (by decide) (by decide)) wd_1160 wd_1162 wp_49 d_M_one_2 rfl e1 (Nat.le_of_ble_eq_true rfl) (fun z => absurd z (by decide)) (fun z => absurd z (by decide)) (fun z => absurd z (by decide)) (c_M_isOne e4) rfl ?_
  refine g_st [.int x5] rfl ?_
  refine g_ifne (pc := 5) 10 d_M_one_5 (by decide) (fun c6 => ?_) (fun c6 => ?_)
  · replace hf := (if_neg c6).symm.trans hf
    refine g_iconst (pc := 10) (0 : Int32) d_M_one_10 (by decide) ?_
    refine g_istore_n (pc := 11) [(3, .int (0 : Int32)), (0, .ref a0), (1, .int a1), (2, .int a2)] d_M_one_11 rfl (Nat.le_of_ble_eq_true rfl) rfl ?_
    refine g_iconst (pc := 12) (0 : Int32) d_M_one_12 (by decide) ?_
    refine g_istore (pc := 13) [(4, .int (0 : Int32)), (3, .int (0 : Int32)), (0, .ref a0), (1, .int a1), (2, .int a2)] d_M_one_13 (Nat.le_of_ble_eq_true rfl) rfl ?_
    refine g_lv [2, 3, 4, 1, 0] rfl ?_
    exact t_M_one_15  FU _ _ _ _ _ _ _ _  hf
  · replace hf := (if_pos c6).symm.trans hf
    refine g_iconst (pc := 8) ((-1) : Int32) d_M_one_8 (by decide) ?_
    obtain ⟨rfl, rfl⟩ := ret2 hf
    exact g_iret (pc := 9) rfl d_M_one_9
def f_M_one (a0 : Nat) (a1 : Int32) (a2 : Int32) (h : mH) : Option (Int32 × mH) := f_M_one_0 a0 a1 a2 h
theorem c_M_one {sc : Nat × (Nat → Int32)} {a0 : Nat} {a1 : Int32} {a2 : Int32} {h : mH} {r : Int32} {h' : mH} (hf : f_M_one a0 a1 a2 h = some (r, h')) : MM sc y_M_one prog_10_method_37_code 5 (some .int) 4 89 [.ref a0, .int a1, .int a2] h (some (.int r)) h' :=
  mm_of_G (by decide) (Nat.le_of_ble_eq_true rfl) (t_M_one_0 _ _ _ _ _ _ hf)
/-! M broken (II)I -/
set_option maxRecDepth 100000 in
theorem dd_M_broken_0 : (decode prog_10_method_38_code 0 = .ok (.aload_n 0, 1)) ∧ (decode prog_10_method_38_code 1 = .ok (.iload_n 1, 1)) ∧ (decode prog_10_method_38_code 2 = .ok (.invokevirtual 213, 3)) ∧ (decode prog_10_method_38_code 5 = .ok (.ifCond .eq 20, 3)) ∧ (decode prog_10_method_38_code 8 = .ok (.aload_n 0, 1)) ∧ (decode prog_10_method_38_code 9 = .ok (.iload_n 2, 1)) ∧ (decode prog_10_method_38_code 10 = .ok (.invokevirtual 210, 3)) ∧ (decode prog_10_method_38_code 13 = .ok (.ifCond .eq 12, 3)) ∧ (decode prog_10_method_38_code 16 = .ok (.aload_n 0, 1)) ∧ (decode prog_10_method_38_code 17 = .ok (.iload_n 1, 1)) ∧ (decode prog_10_method_38_code 18 = .ok (.iload_n 2, 1)) ∧ (decode prog_10_method_38_code 19 = .ok (.invokevirtual 188, 3)) ∧ (decode prog_10_method_38_code 22 = .ok (.goto 4, 3)) ∧ (decode prog_10_method_38_code 25 = .ok (.iconst (-1), 1)) ∧ (decode prog_10_method_38_code 26 = .ok (.ireturn, 1)) := by
  have h : List.drop 0 prog_10_method_38_code.data.toList = 0x2a :: _ := rfl
  refine ⟨zq_k_n 42 h rfl (zq_o_42 _), ?_⟩
  replace h := zq_nx1 (q := 1) h rfl
  refine ⟨zq_k_n 27 h rfl (zq_o_27 _), ?_⟩
  replace h := zq_nx1 (q := 2) h rfl
  refine ⟨zq_k_u2 182 (fun z => .invokevirtual z) 213 h rfl (zq_o_182 _) (by decide +kernel), ?_⟩
  replace h := zq_nx3 (q := 5) h rfl
  refine ⟨zq_k_s2 153 (fun z => .ifCond .eq z) 20 h rfl (zq_o_153 _) (by decide +kernel), ?_⟩
  replace h := zq_nx3 (q := 8) h rfl
  refine ⟨zq_k_n 42 h rfl (zq_o_42 _), ?_⟩
  replace h := zq_nx1 (q := 9) h rfl
  refine ⟨zq_k_n 28 h rfl (zq_o_28 _), ?_⟩
  replace h := zq_nx1 (q := 10) h rfl
  refine ⟨zq_k_u2 182 (fun z => .invokevirtual z) 210 h rfl (zq_o_182 _) (by decide +kernel), ?_⟩
  replace h := zq_nx3 (q := 13) h rfl
  refine ⟨zq_k_s2 153 (fun z => .ifCond .eq z) 12 h rfl (zq_o_153 _) (by decide +kernel), ?_⟩
  replace h := zq_nx3 (q := 16) h rfl
  refine ⟨zq_k_n 42 h rfl (zq_o_42 _), ?_⟩
  replace h := zq_nx1 (q := 17) h rfl
  refine ⟨zq_k_n 27 h rfl (zq_o_27 _), ?_⟩
  replace h := zq_nx1 (q := 18) h rfl
  refine ⟨zq_k_n 28 h rfl (zq_o_28 _), ?_⟩
  replace h := zq_nx1 (q := 19) h rfl
  refine ⟨zq_k_u2 182 (fun z => .invokevirtual z) 188 h rfl (zq_o_182 _) (by decide +kernel), ?_⟩
  replace h := zq_nx3 (q := 22) h rfl
  refine ⟨zq_k_s2 167 (fun z => .goto z) 4 h rfl (zq_o_167 _) (by decide +kernel), ?_⟩
  replace h := zq_nx3 (q := 25) h rfl
  refine ⟨zq_k_n 2 h rfl (zq_o_2 _), ?_⟩
  replace h := zq_nx1 (q := 26) h rfl
  exact zq_k_n 172 h rfl (zq_o_172 _)
theorem d_M_broken_0 : decode prog_10_method_38_code 0 = .ok (.aload_n 0, 1) := dd_M_broken_0.1
theorem d_M_broken_1 : decode prog_10_method_38_code 1 = .ok (.iload_n 1, 1) := dd_M_broken_0.2.1
theorem d_M_broken_2 : decode prog_10_method_38_code 2 = .ok (.invokevirtual 213, 3) := dd_M_broken_0.2.2.1
theorem d_M_broken_5 : decode prog_10_method_38_code 5 = .ok (.ifCond .eq 20, 3) := dd_M_broken_0.2.2.2.1
theorem d_M_broken_8 : decode prog_10_method_38_code 8 = .ok (.aload_n 0, 1) := dd_M_broken_0.2.2.2.2.1
theorem d_M_broken_9 : decode prog_10_method_38_code 9 = .ok (.iload_n 2, 1) := dd_M_broken_0.2.2.2.2.2.1
theorem d_M_broken_10 : decode prog_10_method_38_code 10 = .ok (.invokevirtual 210, 3) := dd_M_broken_0.2.2.2.2.2.2.1
theorem d_M_broken_13 : decode prog_10_method_38_code 13 = .ok (.ifCond .eq 12, 3) := dd_M_broken_0.2.2.2.2.2.2.2.1
theorem d_M_broken_16 : decode prog_10_method_38_code 16 = .ok (.aload_n 0, 1) := dd_M_broken_0.2.2.2.2.2.2.2.2.1
theorem d_M_broken_17 : decode prog_10_method_38_code 17 = .ok (.iload_n 1, 1) := dd_M_broken_0.2.2.2.2.2.2.2.2.2.1
theorem d_M_broken_18 : decode prog_10_method_38_code 18 = .ok (.iload_n 2, 1) := dd_M_broken_0.2.2.2.2.2.2.2.2.2.2.1
theorem d_M_broken_19 : decode prog_10_method_38_code 19 = .ok (.invokevirtual 188, 3) := dd_M_broken_0.2.2.2.2.2.2.2.2.2.2.2.1
theorem d_M_broken_22 : decode prog_10_method_38_code 22 = .ok (.goto 4, 3) := dd_M_broken_0.2.2.2.2.2.2.2.2.2.2.2.2.1
theorem d_M_broken_25 : decode prog_10_method_38_code 25 = .ok (.iconst (-1), 1) := dd_M_broken_0.2.2.2.2.2.2.2.2.2.2.2.2.2.1
theorem d_M_broken_26 : decode prog_10_method_38_code 26 = .ok (.ireturn, 1) := dd_M_broken_0.2.2.2.2.2.2.2.2.2.2.2.2.2.2
def f_M_broken_25   (h : mH) : Option (Int32 × mH) :=
  some (((-1) : Int32), h)
set_option maxRecDepth 20000 in
theorem t_M_broken_25 {sc : Nat × (Nat → Int32)}   (h : mH) (r : Int32) (h' : mH) (hf : f_M_broken_25   h = some (r, h')) : G sc y_M_broken prog_10_method_38_code 3 (some .int) 2 46 25 [] [] h (some (.int r)) h' := by
  unfold f_M_broken_25 at hf
  refine g_iconst (pc := 25) ((-1) : Int32) d_M_broken_25 (by decide) ?_
  obtain ⟨rfl, rfl⟩ := ret2 hf
  exact g_iret (pc := 26) rfl d_M_broken_26
def f_M_broken_0  (a0 : Nat) (a1 : Int32) (a2 : Int32) (h : mH) : Option (Int32 × mH) :=
  bd1 (kC h a0 8) fun _ =>
  bd2 (f_M_isOne a0 a1 h) fun x5 h3 =>
  if x5 = 0 then
    f_M_broken_25  h3
  else
    bd1 (kC h3 a0 8) fun _ =>
    bd2 (f_M_isLaw a0 a2 h3) fun x10 h8 =>
    if x10 = 0 then
      f_M_broken_25  h8
    else
      bd1 (kC h8 a0 8) fun _ =>
      bd2 (f_M_brokenBy a0 a1 a2 h8) fun x15 h13 =>
      some (x15, h13)
set_option maxRecDepth 20000 in
theorem t_M_broken_0 {sc : Nat × (Nat → Int32)}  (a0 : Nat) (a1 : Int32) (a2 : Int32) (h : mH) (r : Int32) (h' : mH) (hf : f_M_broken_0  a0 a1 a2 h = some (r, h')) : G sc y_M_broken prog_10_method_38_code 3 (some .int) 2 46 0 [(0, .ref a0), (1, .int a1), (2, .int a2)] [] h (some (.int r)) h' := by
  unfold f_M_broken_0 at hf
  refine g_aload_n (pc := 0) 0 d_M_broken_0 rfl rfl ?_
  refine g_iload_n (pc := 1) 1 d_M_broken_1 rfl rfl ?_
  obtain ⟨u2, e1, hf⟩ := bd1_e hf
  obtain ⟨x5, h3, e4, hf⟩ := bd2_e hf
  refine g_callV (pc := 2) (ci := 8) [.int a1] (site_of si_M_isOne (by decide) (by decide)) wd_1160 wd_1162 wp_49 d_M_broken_2 rfl e1 (Nat.le_of_ble_eq_true rfl) (fun z => absurd z (by decide)) (fun z => absurd z (by decide)) (fun z => absurd z (by decide)) (c_M_isOne e4) rfl ?_
  refine g_st [.int x5] rfl ?_
  refine g_ifeq (pc := 5) 25 d_M_broken_5 (by decide) (fun c17 => ?_) (fun c17 => ?_)
  · replace hf := (if_pos c17).symm.trans hf
    refine g_lv [] rfl ?_
    exact t_M_broken_25  _ _ _  hf
  · replace hf := (if_neg c17).symm.trans hf
    refine g_aload_n (pc := 8) 0 d_M_broken_8 rfl rfl ?_
    refine g_iload_n (pc := 9) 2 d_M_broken_9 rfl rfl ?_
    obtain ⟨u7, e6, hf⟩ := bd1_e hf
    obtain ⟨x10, h8, e9, hf⟩ := bd2_e hf
    refine g_callV (pc := 10) (ci := 8) [.int a2] (site_of si_M_isLaw (by decide) (by decide)) wd_1136 wd_1138 wp_44 d_M_broken_10 rfl e6 (Nat.le_of_ble_eq_true rfl) (fun z => absurd z (by decide)) (fun z => absurd z (by decide)) (fun z => absurd z (by decide)) (c_M_isLaw e9) rfl ?_
    refine g_st [.int x10] rfl ?_
    refine g_ifeq (pc := 13) 25 d_M_broken_13 (by decide) (fun c16 => ?_) (fun c16 => ?_)
    · replace hf := (if_pos c16).symm.trans hf
      refine g_lv [] rfl ?_
      exact t_M_broken_25  _ _ _  hf
    · replace hf := (if_neg c16).symm.trans hf
      refine g_aload_n (pc := 16) 0 d_M_broken_16 rfl rfl ?_
      refine g_iload_n (pc := 17) 1 d_M_broken_17 rfl rfl ?_
      refine g_iload_n (pc := 18) 2 d_M_broken_18 rfl rfl ?_
      obtain ⟨u12, e11, hf⟩ := bd1_e hf
      obtain ⟨x15, h13, e14, hf⟩ := bd2_e hf
      refine g_callV (pc := 19) (ci := 8) [.int a1, .int a2] (site_of si_M_brokenBy (by decide) (by decide)) wd_1148 wd_1150 wp_47 d_M_broken_19 rfl e11 (Nat.le_of_ble_eq_true rfl) (fun z => absurd z (by decide)) (fun z => absurd z (by decide)) (fun z => absurd z (by decide)) (c_M_brokenBy e14) rfl ?_
      refine g_st [.int x15] rfl ?_
      refine g_goto (pc := 22) 26 d_M_broken_22 (by decide) ?_
      obtain ⟨rfl, rfl⟩ := ret2 hf
      exact g_iret (pc := 26) rfl d_M_broken_26
def f_M_broken (a0 : Nat) (a1 : Int32) (a2 : Int32) (h : mH) : Option (Int32 × mH) := f_M_broken_0 a0 a1 a2 h
theorem c_M_broken {sc : Nat × (Nat → Int32)} {a0 : Nat} {a1 : Int32} {a2 : Int32} {h : mH} {r : Int32} {h' : mH} (hf : f_M_broken a0 a1 a2 h = some (r, h')) : MM sc y_M_broken prog_10_method_38_code 3 (some .int) 2 46 [.ref a0, .int a1, .int a2] h (some (.int r)) h' :=
  mm_of_G (by decide) (Nat.le_of_ble_eq_true rfl) (t_M_broken_0 _ _ _ _ _ _ hf)
/-! M becomes (II)I -/
set_option maxRecDepth 100000 in
theorem dd_M_becomes_0 : (decode prog_10_method_39_code 0 = .ok (.aload_n 0, 1)) ∧ (decode prog_10_method_39_code 1 = .ok (.getfield 7, 3)) ∧ (decode prog_10_method_39_code 4 = .ok (.iload_n 1, 1)) ∧ (decode prog_10_method_39_code 5 = .ok (.iaload, 1)) ∧ (decode prog_10_method_39_code 6 = .ok (.istore_n 3, 1)) ∧ (decode prog_10_method_39_code 7 = .ok (.aload_n 0, 1)) ∧ (decode prog_10_method_39_code 8 = .ok (.getfield 7, 3)) ∧ (decode prog_10_method_39_code 11 = .ok (.iload_n 1, 1)) ∧ (decode prog_10_method_39_code 12 = .ok (.iload_n 2, 1)) ∧ (decode prog_10_method_39_code 13 = .ok (.iastore, 1)) ∧ (decode prog_10_method_39_code 14 = .ok (.iload_n 3, 1)) ∧ (decode prog_10_method_39_code 15 = .ok (.ireturn, 1)) := by
  have h : List.drop 0 prog_10_method_39_code.data.toList = 0x2a :: _ := rfl
  refine ⟨zq_k_n 42 h rfl (zq_o_42 _), ?_⟩
  replace h := zq_nx1 (q := 1) h rfl
  refine ⟨zq_k_u2 180 (fun z => .getfield z) 7 h rfl (zq_o_180 _) (by decide +kernel), ?_⟩
  replace h := zq_nx3 (q := 4) h rfl
  refine ⟨zq_k_n 27 h rfl (zq_o_27 _), ?_⟩
  replace h := zq_nx1 (q := 5) h rfl
  refine ⟨zq_k_n 46 h rfl (zq_o_46 _), ?_⟩
  replace h := zq_nx1 (q := 6) h rfl
  refine ⟨zq_k_n 62 h rfl (zq_o_62 _), ?_⟩
  replace h := zq_nx1 (q := 7) h rfl
  refine ⟨zq_k_n 42 h rfl (zq_o_42 _), ?_⟩
  replace h := zq_nx1 (q := 8) h rfl
  refine ⟨zq_k_u2 180 (fun z => .getfield z) 7 h rfl (zq_o_180 _) (by decide +kernel), ?_⟩
  replace h := zq_nx3 (q := 11) h rfl
  refine ⟨zq_k_n 27 h rfl (zq_o_27 _), ?_⟩
  replace h := zq_nx1 (q := 12) h rfl
  refine ⟨zq_k_n 28 h rfl (zq_o_28 _), ?_⟩
  replace h := zq_nx1 (q := 13) h rfl
  refine ⟨zq_k_n 79 h rfl (zq_o_79 _), ?_⟩
  replace h := zq_nx1 (q := 14) h rfl
  refine ⟨zq_k_n 29 h rfl (zq_o_29 _), ?_⟩
  replace h := zq_nx1 (q := 15) h rfl
  exact zq_k_n 172 h rfl (zq_o_172 _)
theorem d_M_becomes_0 : decode prog_10_method_39_code 0 = .ok (.aload_n 0, 1) := dd_M_becomes_0.1
theorem d_M_becomes_1 : decode prog_10_method_39_code 1 = .ok (.getfield 7, 3) := dd_M_becomes_0.2.1
theorem d_M_becomes_4 : decode prog_10_method_39_code 4 = .ok (.iload_n 1, 1) := dd_M_becomes_0.2.2.1
theorem d_M_becomes_5 : decode prog_10_method_39_code 5 = .ok (.iaload, 1) := dd_M_becomes_0.2.2.2.1
theorem d_M_becomes_6 : decode prog_10_method_39_code 6 = .ok (.istore_n 3, 1) := dd_M_becomes_0.2.2.2.2.1
theorem d_M_becomes_7 : decode prog_10_method_39_code 7 = .ok (.aload_n 0, 1) := dd_M_becomes_0.2.2.2.2.2.1
theorem d_M_becomes_8 : decode prog_10_method_39_code 8 = .ok (.getfield 7, 3) := dd_M_becomes_0.2.2.2.2.2.2.1
theorem d_M_becomes_11 : decode prog_10_method_39_code 11 = .ok (.iload_n 1, 1) := dd_M_becomes_0.2.2.2.2.2.2.2.1
theorem d_M_becomes_12 : decode prog_10_method_39_code 12 = .ok (.iload_n 2, 1) := dd_M_becomes_0.2.2.2.2.2.2.2.2.1
theorem d_M_becomes_13 : decode prog_10_method_39_code 13 = .ok (.iastore, 1) := dd_M_becomes_0.2.2.2.2.2.2.2.2.2.1
theorem d_M_becomes_14 : decode prog_10_method_39_code 14 = .ok (.iload_n 3, 1) := dd_M_becomes_0.2.2.2.2.2.2.2.2.2.2.1
theorem d_M_becomes_15 : decode prog_10_method_39_code 15 = .ok (.ireturn, 1) := dd_M_becomes_0.2.2.2.2.2.2.2.2.2.2.2
def f_M_becomes_0  (a0 : Nat) (a1 : Int32) (a2 : Int32) (h : mH) : Option (Int32 × mH) :=
  bd1 (gR h a0 8 0) fun x1 =>
  bd1 (aI h 0 x1 a1) fun x3 =>
  bd1 (gR h a0 8 0) fun x5 =>
  bd1 (sI h 0 x5 a1 a2) fun h7 =>
  some (x3, h7)
set_option maxRecDepth 20000 in
theorem t_M_becomes_0 {sc : Nat × (Nat → Int32)}  (a0 : Nat) (a1 : Int32) (a2 : Int32) (h : mH) (r : Int32) (h' : mH) (hf : f_M_becomes_0  a0 a1 a2 h = some (r, h')) : G sc y_M_becomes prog_10_method_39_code 4 (some .int) 0 0 0 [(0, .ref a0), (1, .int a1), (2, .int a2)] [] h (some (.int r)) h' := by
  unfold f_M_becomes_0 at hf
  refine g_aload_n (pc := 0) 0 d_M_becomes_0 rfl rfl ?_
  obtain ⟨x1, e2, hf⟩ := bd1_e hf
  refine g_get (pc := 1) (ci := 8) (kk := 0) d_M_becomes_1 rfl in_M (by decide) wd_938 (gR_spec e2) ?_
  refine g_iload_n (pc := 4) 1 d_M_becomes_4 rfl rfl ?_
  obtain ⟨x3, e4, hf⟩ := bd1_e hf
  refine g_iald (pc := 5) d_M_becomes_5 e4 ?_
  refine g_istore_n (pc := 6) [(3, .int x3), (0, .ref a0), (1, .int a1), (2, .int a2)] d_M_becomes_6 rfl (Nat.le_of_ble_eq_true rfl) rfl ?_
  refine g_aload_n (pc := 7) 1 d_M_becomes_7 rfl rfl ?_
  obtain ⟨x5, e6, hf⟩ := bd1_e hf
  refine g_get (pc := 8) (ci := 8) (kk := 0) d_M_becomes_8 rfl in_M (by decide) wd_938 (gR_spec e6) ?_
  refine g_iload_n (pc := 11) 2 d_M_becomes_11 rfl rfl ?_
  refine g_iload_n (pc := 12) 3 d_M_becomes_12 rfl rfl ?_
  obtain ⟨h7, e8, hf⟩ := bd1_e hf
  refine g_iast (pc := 13) d_M_becomes_13 e8 ?_
  refine g_iload_n (pc := 14) 0 d_M_becomes_14 rfl rfl ?_
  obtain ⟨rfl, rfl⟩ := ret2 hf
  exact g_iret (pc := 15) rfl d_M_becomes_15
def f_M_becomes (a0 : Nat) (a1 : Int32) (a2 : Int32) (h : mH) : Option (Int32 × mH) := f_M_becomes_0 a0 a1 a2 h
theorem c_M_becomes {sc : Nat × (Nat → Int32)} {a0 : Nat} {a1 : Int32} {a2 : Int32} {h : mH} {r : Int32} {h' : mH} (hf : f_M_becomes a0 a1 a2 h = some (r, h')) : MM sc y_M_becomes prog_10_method_39_code 4 (some .int) 0 0 [.ref a0, .int a1, .int a2] h (some (.int r)) h' :=
  mm_of_G (by decide) (Nat.le_of_ble_eq_true rfl) (t_M_becomes_0 _ _ _ _ _ _ hf)
/-! M quota (II)I -/
set_option maxRecDepth 100000 in
theorem dd_M_quota_0 : (decode prog_10_method_41_code 0 = .ok (.aload_n 0, 1)) ∧ (decode prog_10_method_41_code 1 = .ok (.iload_n 1, 1)) ∧ (decode prog_10_method_41_code 2 = .ok (.invokevirtual 210, 3)) ∧ (decode prog_10_method_41_code 5 = .ok (.ifCond .eq 26, 3)) ∧ (decode prog_10_method_41_code 8 = .ok (.iload_n 2, 1)) ∧ (decode prog_10_method_41_code 9 = .ok (.i2l, 1)) ∧ (decode prog_10_method_41_code 10 = .ok (.lconst 0, 1)) ∧ (decode prog_10_method_41_code 11 = .ok (.ldc2_w 224, 3)) ∧ (decode prog_10_method_41_code 14 = .ok (.invokestatic 114, 3)) ∧ (decode prog_10_method_41_code 17 = .ok (.ifCond .eq 14, 3)) ∧ (decode prog_10_method_41_code 20 = .ok (.aload_n 0, 1)) ∧ (decode prog_10_method_41_code 21 = .ok (.iconst 0, 1)) ∧ (decode prog_10_method_41_code 22 = .ok (.iload_n 1, 1)) ∧ (decode prog_10_method_41_code 23 = .ok (.iadd, 1)) ∧ (decode prog_10_method_41_code 24 = .ok (.iload_n 2, 1)) ∧ (decode prog_10_method_41_code 25 = .ok (.invokevirtual 226, 3)) ∧ (decode prog_10_method_41_code 28 = .ok (.goto 4, 3)) ∧ (decode prog_10_method_41_code 31 = .ok (.iconst (-1), 1)) ∧ (decode prog_10_method_41_code 32 = .ok (.ireturn, 1)) := by
  have h : List.drop 0 prog_10_method_41_code.data.toList = 0x2a :: _ := rfl
  refine ⟨zq_k_n 42 h rfl (zq_o_42 _), ?_⟩
  replace h := zq_nx1 (q := 1) h rfl
  refine ⟨zq_k_n 27 h rfl (zq_o_27 _), ?_⟩
  replace h := zq_nx1 (q := 2) h rfl
  refine ⟨zq_k_u2 182 (fun z => .invokevirtual z) 210 h rfl (zq_o_182 _) (by decide +kernel), ?_⟩
  replace h := zq_nx3 (q := 5) h rfl
  refine ⟨zq_k_s2 153 (fun z => .ifCond .eq z) 26 h rfl (zq_o_153 _) (by decide +kernel), ?_⟩
  replace h := zq_nx3 (q := 8) h rfl
  refine ⟨zq_k_n 28 h rfl (zq_o_28 _), ?_⟩
  replace h := zq_nx1 (q := 9) h rfl
  refine ⟨zq_k_n 133 h rfl (zq_o_133 _), ?_⟩
  replace h := zq_nx1 (q := 10) h rfl
  refine ⟨zq_k_n 9 h rfl (zq_o_9 _), ?_⟩
  replace h := zq_nx1 (q := 11) h rfl
  refine ⟨zq_k_u2 20 (fun z => .ldc2_w z) 224 h rfl (zq_o_20 _) (by decide +kernel), ?_⟩
  replace h := zq_nx3 (q := 14) h rfl
  refine ⟨zq_k_u2 184 (fun z => .invokestatic z) 114 h rfl (zq_o_184 _) (by decide +kernel), ?_⟩
  replace h := zq_nx3 (q := 17) h rfl
  refine ⟨zq_k_s2 153 (fun z => .ifCond .eq z) 14 h rfl (zq_o_153 _) (by decide +kernel), ?_⟩
  replace h := zq_nx3 (q := 20) h rfl
  refine ⟨zq_k_n 42 h rfl (zq_o_42 _), ?_⟩
  replace h := zq_nx1 (q := 21) h rfl
  refine ⟨zq_k_n 3 h rfl (zq_o_3 _), ?_⟩
  replace h := zq_nx1 (q := 22) h rfl
  refine ⟨zq_k_n 27 h rfl (zq_o_27 _), ?_⟩
  replace h := zq_nx1 (q := 23) h rfl
  refine ⟨zq_k_n 96 h rfl (zq_o_96 _), ?_⟩
  replace h := zq_nx1 (q := 24) h rfl
  refine ⟨zq_k_n 28 h rfl (zq_o_28 _), ?_⟩
  replace h := zq_nx1 (q := 25) h rfl
  refine ⟨zq_k_u2 182 (fun z => .invokevirtual z) 226 h rfl (zq_o_182 _) (by decide +kernel), ?_⟩
  replace h := zq_nx3 (q := 28) h rfl
  refine ⟨zq_k_s2 167 (fun z => .goto z) 4 h rfl (zq_o_167 _) (by decide +kernel), ?_⟩
  replace h := zq_nx3 (q := 31) h rfl
  refine ⟨zq_k_n 2 h rfl (zq_o_2 _), ?_⟩
  replace h := zq_nx1 (q := 32) h rfl
  exact zq_k_n 172 h rfl (zq_o_172 _)
theorem d_M_quota_0 : decode prog_10_method_41_code 0 = .ok (.aload_n 0, 1) := dd_M_quota_0.1
theorem d_M_quota_1 : decode prog_10_method_41_code 1 = .ok (.iload_n 1, 1) := dd_M_quota_0.2.1
theorem d_M_quota_2 : decode prog_10_method_41_code 2 = .ok (.invokevirtual 210, 3) := dd_M_quota_0.2.2.1
theorem d_M_quota_5 : decode prog_10_method_41_code 5 = .ok (.ifCond .eq 26, 3) := dd_M_quota_0.2.2.2.1
theorem d_M_quota_8 : decode prog_10_method_41_code 8 = .ok (.iload_n 2, 1) := dd_M_quota_0.2.2.2.2.1
theorem d_M_quota_9 : decode prog_10_method_41_code 9 = .ok (.i2l, 1) := dd_M_quota_0.2.2.2.2.2.1
theorem d_M_quota_10 : decode prog_10_method_41_code 10 = .ok (.lconst 0, 1) := dd_M_quota_0.2.2.2.2.2.2.1
theorem d_M_quota_11 : decode prog_10_method_41_code 11 = .ok (.ldc2_w 224, 3) := dd_M_quota_0.2.2.2.2.2.2.2.1
theorem d_M_quota_14 : decode prog_10_method_41_code 14 = .ok (.invokestatic 114, 3) := dd_M_quota_0.2.2.2.2.2.2.2.2.1
theorem d_M_quota_17 : decode prog_10_method_41_code 17 = .ok (.ifCond .eq 14, 3) := dd_M_quota_0.2.2.2.2.2.2.2.2.2.1
theorem d_M_quota_20 : decode prog_10_method_41_code 20 = .ok (.aload_n 0, 1) := dd_M_quota_0.2.2.2.2.2.2.2.2.2.2.1
theorem d_M_quota_21 : decode prog_10_method_41_code 21 = .ok (.iconst 0, 1) := dd_M_quota_0.2.2.2.2.2.2.2.2.2.2.2.1
theorem d_M_quota_22 : decode prog_10_method_41_code 22 = .ok (.iload_n 1, 1) := dd_M_quota_0.2.2.2.2.2.2.2.2.2.2.2.2.1
theorem d_M_quota_23 : decode prog_10_method_41_code 23 = .ok (.iadd, 1) := dd_M_quota_0.2.2.2.2.2.2.2.2.2.2.2.2.2.1
theorem d_M_quota_24 : decode prog_10_method_41_code 24 = .ok (.iload_n 2, 1) := dd_M_quota_0.2.2.2.2.2.2.2.2.2.2.2.2.2.2.1
theorem d_M_quota_25 : decode prog_10_method_41_code 25 = .ok (.invokevirtual 226, 3) := dd_M_quota_0.2.2.2.2.2.2.2.2.2.2.2.2.2.2.2.1
theorem d_M_quota_28 : decode prog_10_method_41_code 28 = .ok (.goto 4, 3) := dd_M_quota_0.2.2.2.2.2.2.2.2.2.2.2.2.2.2.2.2.1
theorem d_M_quota_31 : decode prog_10_method_41_code 31 = .ok (.iconst (-1), 1) := dd_M_quota_0.2.2.2.2.2.2.2.2.2.2.2.2.2.2.2.2.2.1
theorem d_M_quota_32 : decode prog_10_method_41_code 32 = .ok (.ireturn, 1) := dd_M_quota_0.2.2.2.2.2.2.2.2.2.2.2.2.2.2.2.2.2.2
def f_M_quota_31   (h : mH) : Option (Int32 × mH) :=
  some (((-1) : Int32), h)
set_option maxRecDepth 20000 in
theorem t_M_quota_31 {sc : Nat × (Nat → Int32)}   (h : mH) (r : Int32) (h' : mH) (hf : f_M_quota_31   h = some (r, h')) : G sc y_M_quota prog_10_method_41_code 3 (some .int) 2 46 31 [] [] h (some (.int r)) h' := by
  unfold f_M_quota_31 at hf
  refine g_iconst (pc := 31) ((-1) : Int32) d_M_quota_31 (by decide) ?_
  obtain ⟨rfl, rfl⟩ := ret2 hf
  exact g_iret (pc := 32) rfl d_M_quota_32
def f_M_quota_0  (a0 : Nat) (a1 : Int32) (a2 : Int32) (h : mH) : Option (Int32 × mH) :=
  bd1 (kC h a0 8) fun _ =>
  bd2 (f_M_isLaw a0 a1 h) fun x5 h3 =>
  if x5 = 0 then
    f_M_quota_31  h3
  else
    bd2 (f_M_in a2.toInt64 (0 : Int64) (9 : Int64) h3) fun x8 h6 =>
    if x8 = 0 then
      f_M_quota_31  h6
    else
      bd1 (kC h6 a0 8) fun _ =>
      bd2 (f_M_becomes a0 ((0 : Int32) + a1) a2 h6) fun x13 h11 =>
      some (x13, h11)
set_option maxRecDepth 20000 in
theorem t_M_quota_0 {sc : Nat × (Nat → Int32)}  (a0 : Nat) (a1 : Int32) (a2 : Int32) (h : mH) (r : Int32) (h' : mH) (hf : f_M_quota_0  a0 a1 a2 h = some (r, h')) : G sc y_M_quota prog_10_method_41_code 3 (some .int) 2 46 0 [(0, .ref a0), (1, .int a1), (2, .int a2)] [] h (some (.int r)) h' := by
  unfold f_M_quota_0 at hf
  refine g_aload_n (pc := 0) 0 d_M_quota_0 rfl rfl ?_
  refine g_iload_n (pc := 1) 1 d_M_quota_1 rfl rfl ?_
  obtain ⟨u2, e1, hf⟩ := bd1_e hf
  obtain ⟨x5, h3, e4, hf⟩ := bd2_e hf
  refine g_callV (pc := 2) (ci := 8) [.int a1] (site_of si_M_isLaw (by decide) (by decide)) wd_1136 wd_1138 wp_44 d_M_quota_2 rfl e1 (Nat.le_of_ble_eq_true rfl) (fun z => absurd z (by decide)) (fun z => absurd z (by decide)) (fun z => absurd z (by decide)) (c_M_isLaw e4) rfl ?_
  refine g_st [.int x5] rfl ?_
  refine g_ifeq (pc := 5) 31 d_M_quota_5 (by decide) (fun c15 => ?_) (fun c15 => ?_)
  · replace hf := (if_pos c15).symm.trans hf
    refine g_lv [] rfl ?_
    exact t_M_quota_31  _ _ _  hf
  · replace hf := (if_neg c15).symm.trans hf
    refine g_iload_n (pc := 8) 2 d_M_quota_8 rfl rfl ?_
    refine g_i2l (pc := 9) d_M_quota_9 ?_
    refine g_lconst (pc := 10) (0 : Int64) d_M_quota_10 (by decide) ?_
    refine g_ldc2 (pc := 11) (9 : Int64) d_M_quota_11 wd_1191 ?_
    obtain ⟨x8, h6, e7, hf⟩ := bd2_e hf
    refine g_callS (pc := 14) [.long a2.toInt64, .long (0 : Int64), .long (9 : Int64)] (site_of si_M_in (by decide) (by decide)) wd_1061 wd_1062 d_M_quota_14 (Nat.le_of_ble_eq_true rfl) (fun z => absurd z (by decide)) (fun z => absurd z (by decide)) (fun z => absurd z (by decide)) (c_M_in e7) rfl ?_
    refine g_st [.int x8] rfl ?_
    refine g_ifeq (pc := 17) 31 d_M_quota_17 (by decide) (fun c14 => ?_) (fun c14 => ?_)
    · replace hf := (if_pos c14).symm.trans hf
      refine g_lv [] rfl ?_
      exact t_M_quota_31  _ _ _  hf
    · replace hf := (if_neg c14).symm.trans hf
      refine g_aload_n (pc := 20) 0 d_M_quota_20 rfl rfl ?_
      refine g_iconst (pc := 21) (0 : Int32) d_M_quota_21 (by decide) ?_
      refine g_iload_n (pc := 22) 1 d_M_quota_22 rfl rfl ?_
      refine g_iadd (pc := 23) d_M_quota_23 ?_
      refine g_iload_n (pc := 24) 2 d_M_quota_24 rfl rfl ?_
      obtain ⟨u10, e9, hf⟩ := bd1_e hf
      obtain ⟨x13, h11, e12, hf⟩ := bd2_e hf
      refine g_callV (pc := 25) (ci := 8) [.int ((0 : Int32) + a1), .int a2] (site_of si_M_becomes (by decide) (by decide)) wd_1192 wd_1194 wp_54 d_M_quota_25 rfl e9 (Nat.le_of_ble_eq_true rfl) (fun z => absurd z (by decide)) (fun z => absurd z (by decide)) (fun z => absurd z (by decide)) (c_M_becomes e12) rfl ?_
      refine g_st [.int x13] rfl ?_
      refine g_goto (pc := 28) 32 d_M_quota_28 (by decide) ?_
      obtain ⟨rfl, rfl⟩ := ret2 hf
      exact g_iret (pc := 32) rfl d_M_quota_32
def f_M_quota (a0 : Nat) (a1 : Int32) (a2 : Int32) (h : mH) : Option (Int32 × mH) := f_M_quota_0 a0 a1 a2 h
theorem c_M_quota {sc : Nat × (Nat → Int32)} {a0 : Nat} {a1 : Int32} {a2 : Int32} {h : mH} {r : Int32} {h' : mH} (hf : f_M_quota a0 a1 a2 h = some (r, h')) : MM sc y_M_quota prog_10_method_41_code 3 (some .int) 2 46 [.ref a0, .int a1, .int a2] h (some (.int r)) h' :=
  mm_of_G (by decide) (Nat.le_of_ble_eq_true rfl) (t_M_quota_0 _ _ _ _ _ _ hf)
/-! M carry (II)I -/
set_option maxRecDepth 100000 in
theorem dd_M_carry_0 : (decode prog_10_method_42_code 0 = .ok (.aload_n 0, 1)) ∧ (decode prog_10_method_42_code 1 = .ok (.iload_n 1, 1)) ∧ (decode prog_10_method_42_code 2 = .ok (.invokevirtual 210, 3)) ∧ (decode prog_10_method_42_code 5 = .ok (.ifCond .eq 33, 3)) ∧ (decode prog_10_method_42_code 8 = .ok (.iload_n 2, 1)) ∧ (decode prog_10_method_42_code 9 = .ok (.iload_n 1, 1)) ∧ (decode prog_10_method_42_code 10 = .ok (.if_icmp .eq 28, 3)) ∧ (decode prog_10_method_42_code 13 = .ok (.iload_n 2, 1)) ∧ (decode prog_10_method_42_code 14 = .ok (.bipush (-4), 2)) ∧ (decode prog_10_method_42_code 16 = .ok (.if_icmp .eq 11, 3)) ∧ (decode prog_10_method_42_code 19 = .ok (.aload_n 0, 1)) ∧ (decode prog_10_method_42_code 20 = .ok (.iload_n 2, 1)) ∧ (decode prog_10_method_42_code 21 = .ok (.invokevirtual 210, 3)) ∧ (decode prog_10_method_42_code 24 = .ok (.ifCond .eq 14, 3)) ∧ (decode prog_10_method_42_code 27 = .ok (.aload_n 0, 1)) ∧ (decode prog_10_method_42_code 28 = .ok (.iconst 5, 1)) ∧ (decode prog_10_method_42_code 29 = .ok (.iload_n 1, 1)) ∧ (decode prog_10_method_42_code 30 = .ok (.iadd, 1)) ∧ (decode prog_10_method_42_code 31 = .ok (.iload_n 2, 1)) ∧ (decode prog_10_method_42_code 32 = .ok (.invokevirtual 226, 3)) ∧ (decode prog_10_method_42_code 35 = .ok (.goto 4, 3)) ∧ (decode prog_10_method_42_code 38 = .ok (.iconst (-1), 1)) ∧ (decode prog_10_method_42_code 39 = .ok (.ireturn, 1)) := by
  have h : List.drop 0 prog_10_method_42_code.data.toList = 0x2a :: _ := rfl
  refine ⟨zq_k_n 42 h rfl (zq_o_42 _), ?_⟩
  replace h := zq_nx1 (q := 1) h rfl
  refine ⟨zq_k_n 27 h rfl (zq_o_27 _), ?_⟩
  replace h := zq_nx1 (q := 2) h rfl
  refine ⟨zq_k_u2 182 (fun z => .invokevirtual z) 210 h rfl (zq_o_182 _) (by decide +kernel), ?_⟩
  replace h := zq_nx3 (q := 5) h rfl
  refine ⟨zq_k_s2 153 (fun z => .ifCond .eq z) 33 h rfl (zq_o_153 _) (by decide +kernel), ?_⟩
  replace h := zq_nx3 (q := 8) h rfl
  refine ⟨zq_k_n 28 h rfl (zq_o_28 _), ?_⟩
  replace h := zq_nx1 (q := 9) h rfl
  refine ⟨zq_k_n 27 h rfl (zq_o_27 _), ?_⟩
  replace h := zq_nx1 (q := 10) h rfl
  refine ⟨zq_k_s2 159 (fun z => .if_icmp .eq z) 28 h rfl (zq_o_159 _) (by decide +kernel), ?_⟩
  replace h := zq_nx3 (q := 13) h rfl
  refine ⟨zq_k_n 28 h rfl (zq_o_28 _), ?_⟩
  replace h := zq_nx1 (q := 14) h rfl
  refine ⟨zq_k_s1 16 (fun z => .bipush z) (-4) h rfl (zq_o_16 _) (by decide +kernel), ?_⟩
  replace h := zq_nx2 (q := 16) h rfl
  refine ⟨zq_k_s2 159 (fun z => .if_icmp .eq z) 11 h rfl (zq_o_159 _) (by decide +kernel), ?_⟩
  replace h := zq_nx3 (q := 19) h rfl
  refine ⟨zq_k_n 42 h rfl (zq_o_42 _), ?_⟩
  replace h := zq_nx1 (q := 20) h rfl
  refine ⟨zq_k_n 28 h rfl (zq_o_28 _), ?_⟩
  replace h := zq_nx1 (q := 21) h rfl
  refine ⟨zq_k_u2 182 (fun z => .invokevirtual z) 210 h rfl (zq_o_182 _) (by decide +kernel), ?_⟩
  replace h := zq_nx3 (q := 24) h rfl
  refine ⟨zq_k_s2 153 (fun z => .ifCond .eq z) 14 h rfl (zq_o_153 _) (by decide +kernel), ?_⟩
  replace h := zq_nx3 (q := 27) h rfl
  refine ⟨zq_k_n 42 h rfl (zq_o_42 _), ?_⟩
  replace h := zq_nx1 (q := 28) h rfl
  refine ⟨zq_k_n 8 h rfl (zq_o_8 _), ?_⟩
  replace h := zq_nx1 (q := 29) h rfl
  refine ⟨zq_k_n 27 h rfl (zq_o_27 _), ?_⟩
  replace h := zq_nx1 (q := 30) h rfl
  refine ⟨zq_k_n 96 h rfl (zq_o_96 _), ?_⟩
  replace h := zq_nx1 (q := 31) h rfl
  refine ⟨zq_k_n 28 h rfl (zq_o_28 _), ?_⟩
  replace h := zq_nx1 (q := 32) h rfl
  refine ⟨zq_k_u2 182 (fun z => .invokevirtual z) 226 h rfl (zq_o_182 _) (by decide +kernel), ?_⟩
  replace h := zq_nx3 (q := 35) h rfl
  refine ⟨zq_k_s2 167 (fun z => .goto z) 4 h rfl (zq_o_167 _) (by decide +kernel), ?_⟩
  replace h := zq_nx3 (q := 38) h rfl
  refine ⟨zq_k_n 2 h rfl (zq_o_2 _), ?_⟩
  replace h := zq_nx1 (q := 39) h rfl
  exact zq_k_n 172 h rfl (zq_o_172 _)
theorem d_M_carry_0 : decode prog_10_method_42_code 0 = .ok (.aload_n 0, 1) := dd_M_carry_0.1
theorem d_M_carry_1 : decode prog_10_method_42_code 1 = .ok (.iload_n 1, 1) := dd_M_carry_0.2.1
theorem d_M_carry_2 : decode prog_10_method_42_code 2 = .ok (.invokevirtual 210, 3) := dd_M_carry_0.2.2.1
theorem d_M_carry_5 : decode prog_10_method_42_code 5 = .ok (.ifCond .eq 33, 3) := dd_M_carry_0.2.2.2.1
theorem d_M_carry_8 : decode prog_10_method_42_code 8 = .ok (.iload_n 2, 1) := dd_M_carry_0.2.2.2.2.1
theorem d_M_carry_9 : decode prog_10_method_42_code 9 = .ok (.iload_n 1, 1) := dd_M_carry_0.2.2.2.2.2.1
theorem d_M_carry_10 : decode prog_10_method_42_code 10 = .ok (.if_icmp .eq 28, 3) := dd_M_carry_0.2.2.2.2.2.2.1
theorem d_M_carry_13 : decode prog_10_method_42_code 13 = .ok (.iload_n 2, 1) := dd_M_carry_0.2.2.2.2.2.2.2.1
theorem d_M_carry_14 : decode prog_10_method_42_code 14 = .ok (.bipush (-4), 2) := dd_M_carry_0.2.2.2.2.2.2.2.2.1
theorem d_M_carry_16 : decode prog_10_method_42_code 16 = .ok (.if_icmp .eq 11, 3) := dd_M_carry_0.2.2.2.2.2.2.2.2.2.1
theorem d_M_carry_19 : decode prog_10_method_42_code 19 = .ok (.aload_n 0, 1) := dd_M_carry_0.2.2.2.2.2.2.2.2.2.2.1
theorem d_M_carry_20 : decode prog_10_method_42_code 20 = .ok (.iload_n 2, 1) := dd_M_carry_0.2.2.2.2.2.2.2.2.2.2.2.1
theorem d_M_carry_21 : decode prog_10_method_42_code 21 = .ok (.invokevirtual 210, 3) := dd_M_carry_0.2.2.2.2.2.2.2.2.2.2.2.2.1
theorem d_M_carry_24 : decode prog_10_method_42_code 24 = .ok (.ifCond .eq 14, 3) := dd_M_carry_0.2.2.2.2.2.2.2.2.2.2.2.2.2.1
theorem d_M_carry_27 : decode prog_10_method_42_code 27 = .ok (.aload_n 0, 1) := dd_M_carry_0.2.2.2.2.2.2.2.2.2.2.2.2.2.2.1
theorem d_M_carry_28 : decode prog_10_method_42_code 28 = .ok (.iconst 5, 1) := dd_M_carry_0.2.2.2.2.2.2.2.2.2.2.2.2.2.2.2.1
theorem d_M_carry_29 : decode prog_10_method_42_code 29 = .ok (.iload_n 1, 1) := dd_M_carry_0.2.2.2.2.2.2.2.2.2.2.2.2.2.2.2.2.1
theorem d_M_carry_30 : decode prog_10_method_42_code 30 = .ok (.iadd, 1) := dd_M_carry_0.2.2.2.2.2.2.2.2.2.2.2.2.2.2.2.2.2.1
theorem d_M_carry_31 : decode prog_10_method_42_code 31 = .ok (.iload_n 2, 1) := dd_M_carry_0.2.2.2.2.2.2.2.2.2.2.2.2.2.2.2.2.2.2.1
theorem d_M_carry_32 : decode prog_10_method_42_code 32 = .ok (.invokevirtual 226, 3) := dd_M_carry_0.2.2.2.2.2.2.2.2.2.2.2.2.2.2.2.2.2.2.2.1
theorem d_M_carry_35 : decode prog_10_method_42_code 35 = .ok (.goto 4, 3) := dd_M_carry_0.2.2.2.2.2.2.2.2.2.2.2.2.2.2.2.2.2.2.2.2.1
theorem d_M_carry_38 : decode prog_10_method_42_code 38 = .ok (.iconst (-1), 1) := dd_M_carry_0.2.2.2.2.2.2.2.2.2.2.2.2.2.2.2.2.2.2.2.2.2.1
theorem d_M_carry_39 : decode prog_10_method_42_code 39 = .ok (.ireturn, 1) := dd_M_carry_0.2.2.2.2.2.2.2.2.2.2.2.2.2.2.2.2.2.2.2.2.2.2
def f_M_carry_38   (h : mH) : Option (Int32 × mH) :=
  some (((-1) : Int32), h)
set_option maxRecDepth 20000 in
theorem t_M_carry_38 {sc : Nat × (Nat → Int32)}   (h : mH) (r : Int32) (h' : mH) (hf : f_M_carry_38   h = some (r, h')) : G sc y_M_carry prog_10_method_42_code 3 (some .int) 2 46 38 [] [] h (some (.int r)) h' := by
  unfold f_M_carry_38 at hf
  refine g_iconst (pc := 38) ((-1) : Int32) d_M_carry_38 (by decide) ?_
  obtain ⟨rfl, rfl⟩ := ret2 hf
  exact g_iret (pc := 39) rfl d_M_carry_39
def f_M_carry_27  (b0 : Nat) (b1 : Int32) (b2 : Int32) (h : mH) : Option (Int32 × mH) :=
  bd1 (kC h b0 8) fun _ =>
  bd2 (f_M_becomes b0 ((5 : Int32) + b1) b2 h) fun x19 h17 =>
  some (x19, h17)
set_option maxRecDepth 20000 in
theorem t_M_carry_27 {sc : Nat × (Nat → Int32)}  (b0 : Nat) (b1 : Int32) (b2 : Int32) (h : mH) (r : Int32) (h' : mH) (hf : f_M_carry_27  b0 b1 b2 h = some (r, h')) : G sc y_M_carry prog_10_method_42_code 3 (some .int) 2 46 27 [(0, .ref b0), (1, .int b1), (2, .int b2)] [] h (some (.int r)) h' := by
  unfold f_M_carry_27 at hf
  refine g_aload_n (pc := 27) 0 d_M_carry_27 rfl rfl ?_
  refine g_iconst (pc := 28) (5 : Int32) d_M_carry_28 (by decide) ?_
  refine g_iload_n (pc := 29) 1 d_M_carry_29 rfl rfl ?_
  refine g_iadd (pc := 30) d_M_carry_30 ?_
  refine g_iload_n (pc := 31) 2 d_M_carry_31 rfl rfl ?_
  obtain ⟨u16, e15, hf⟩ := bd1_e hf
  obtain ⟨x19, h17, e18, hf⟩ := bd2_e hf
  refine g_callV (pc := 32) (ci := 8) [.int ((5 : Int32) + b1), .int b2] (site_of si_M_becomes (by decide) (by decide)) wd_1192 wd_1194 wp_54 d_M_carry_32 rfl e15 (Nat.le_of_ble_eq_true rfl) (fun z => absurd z (by decide)) (fun z => absurd z (by decide)) (fun z => absurd z (by decide)) (c_M_becomes e18) rfl ?_
  refine g_st [.int x19] rfl ?_
  refine g_goto (pc := 35) 39 d_M_carry_35 (by decide) ?_
  obtain ⟨rfl, rfl⟩ := ret2 hf
  exact g_iret (pc := 39) rfl d_M_carry_39
def f_M_carry_0  (a0 : Nat) (a1 : Int32) (a2 : Int32) (h : mH) : Option (Int32 × mH) :=
  bd1 (kC h a0 8) fun _ =>
  bd2 (f_M_isLaw a0 a1 h) fun x5 h3 =>
  if x5 = 0 then
    f_M_carry_38  h3
  else
    if a2 = a1 then
      f_M_carry_38  h3
    else
      if a2 = ((-4) : Int32) then
        f_M_carry_27  a0 a1 a2 h3
      else
        bd1 (kC h3 a0 8) fun _ =>
        bd2 (f_M_isLaw a0 a2 h3) fun x10 h8 =>
        if x10 = 0 then
          f_M_carry_38  h8
        else
          f_M_carry_27  a0 a1 a2 h8
set_option maxRecDepth 20000 in
theorem t_M_carry_0 {sc : Nat × (Nat → Int32)}  (a0 : Nat) (a1 : Int32) (a2 : Int32) (h : mH) (r : Int32) (h' : mH) (hf : f_M_carry_0  a0 a1 a2 h = some (r, h')) : G sc y_M_carry prog_10_method_42_code 3 (some .int) 2 46 0 [(0, .ref a0), (1, .int a1), (2, .int a2)] [] h (some (.int r)) h' := by
  unfold f_M_carry_0 at hf
  refine g_aload_n (pc := 0) 0 d_M_carry_0 rfl rfl ?_
  refine g_iload_n (pc := 1) 1 d_M_carry_1 rfl rfl ?_
  obtain ⟨u2, e1, hf⟩ := bd1_e hf
  obtain ⟨x5, h3, e4, hf⟩ := bd2_e hf
  refine g_callV (pc := 2) (ci := 8) [.int a1] (site_of si_M_isLaw (by decide) (by decide)) wd_1136 wd_1138 wp_44 d_M_carry_2 rfl e1 (Nat.le_of_ble_eq_true rfl) (fun z => absurd z (by decide)) (fun z => absurd z (by decide)) (fun z => absurd z (by decide)) (c_M_isLaw e4) rfl ?_
  refine g_st [.int x5] rfl ?_
  refine g_ifeq (pc := 5) 38 d_M_carry_5 (by decide) (fun c14 => ?_) (fun c14 => ?_)
  · replace hf := (if_pos c14).symm.trans hf
    refine g_lv [] rfl ?_
    exact t_M_carry_38  _ _ _  hf
  · replace hf := (if_neg c14).symm.trans hf
    refine g_iload_n (pc := 8) 2 d_M_carry_8 rfl rfl ?_
    refine g_iload_n (pc := 9) 1 d_M_carry_9 rfl rfl ?_
    refine g_icmpeq (pc := 10) 38 d_M_carry_10 (by decide) (fun c13 => ?_) (fun c13 => ?_)
    · replace hf := (if_pos c13).symm.trans hf
      refine g_lv [] rfl ?_
      exact t_M_carry_38  _ _ _  hf
    · replace hf := (if_neg c13).symm.trans hf
      refine g_iload_n (pc := 13) 2 d_M_carry_13 rfl rfl ?_
      refine g_bipush (pc := 14) ((-4) : Int32) d_M_carry_14 (by decide) ?_
      refine g_icmpeq (pc := 16) 27 d_M_carry_16 (by decide) (fun c12 => ?_) (fun c12 => ?_)
      · replace hf := (if_pos c12).symm.trans hf
        refine g_lv [0, 1, 2] rfl ?_
        exact t_M_carry_27  _ _ _ _ _ _  hf
      · replace hf := (if_neg c12).symm.trans hf
        refine g_aload_n (pc := 19) 0 d_M_carry_19 rfl rfl ?_
        refine g_iload_n (pc := 20) 2 d_M_carry_20 rfl rfl ?_
        obtain ⟨u7, e6, hf⟩ := bd1_e hf
        obtain ⟨x10, h8, e9, hf⟩ := bd2_e hf
        refine g_callV (pc := 21) (ci := 8) [.int a2] (site_of si_M_isLaw (by decide) (by decide)) wd_1136 wd_1138 wp_44 d_M_carry_21 rfl e6 (Nat.le_of_ble_eq_true rfl) (fun z => absurd z (by decide)) (fun z => absurd z (by decide)) (fun z => absurd z (by decide)) (c_M_isLaw e9) rfl ?_
        refine g_st [.int x10] rfl ?_
        refine g_ifeq (pc := 24) 38 d_M_carry_24 (by decide) (fun c11 => ?_) (fun c11 => ?_)
        · replace hf := (if_pos c11).symm.trans hf
          refine g_lv [] rfl ?_
          exact t_M_carry_38  _ _ _  hf
        · replace hf := (if_neg c11).symm.trans hf
          refine g_lv [0, 1, 2] rfl ?_
          exact t_M_carry_27  _ _ _ _ _ _  hf
def f_M_carry (a0 : Nat) (a1 : Int32) (a2 : Int32) (h : mH) : Option (Int32 × mH) := f_M_carry_0 a0 a1 a2 h
theorem c_M_carry {sc : Nat × (Nat → Int32)} {a0 : Nat} {a1 : Int32} {a2 : Int32} {h : mH} {r : Int32} {h' : mH} (hf : f_M_carry a0 a1 a2 h = some (r, h')) : MM sc y_M_carry prog_10_method_42_code 3 (some .int) 2 46 [.ref a0, .int a1, .int a2] h (some (.int r)) h' :=
  mm_of_G (by decide) (Nat.le_of_ble_eq_true rfl) (t_M_carry_0 _ _ _ _ _ _ hf)
/-! M becomesBit (IIZ)I -/
set_option maxRecDepth 100000 in
theorem dd_M_becomesBit_0 : (decode prog_10_method_40_code 0 = .ok (.aload_n 0, 1)) ∧ (decode prog_10_method_40_code 1 = .ok (.getfield 7, 3)) ∧ (decode prog_10_method_40_code 4 = .ok (.iload_n 1, 1)) ∧ (decode prog_10_method_40_code 5 = .ok (.iaload, 1)) ∧ (decode prog_10_method_40_code 6 = .ok (.iload_n 2, 1)) ∧ (decode prog_10_method_40_code 7 = .ok (.ishr, 1)) ∧ (decode prog_10_method_40_code 8 = .ok (.iconst 1, 1)) ∧ (decode prog_10_method_40_code 9 = .ok (.iand, 1)) ∧ (decode prog_10_method_40_code 10 = .ok (.istore 4, 2)) ∧ (decode prog_10_method_40_code 12 = .ok (.aload_n 0, 1)) ∧ (decode prog_10_method_40_code 13 = .ok (.getfield 7, 3)) ∧ (decode prog_10_method_40_code 16 = .ok (.iload_n 1, 1)) ∧ (decode prog_10_method_40_code 17 = .ok (.iload_n 3, 1)) ∧ (decode prog_10_method_40_code 18 = .ok (.ifCond .eq 16, 3)) ∧ (decode prog_10_method_40_code 21 = .ok (.aload_n 0, 1)) ∧ (decode prog_10_method_40_code 22 = .ok (.getfield 7, 3)) ∧ (decode prog_10_method_40_code 25 = .ok (.iload_n 1, 1)) ∧ (decode prog_10_method_40_code 26 = .ok (.iaload, 1)) ∧ (decode prog_10_method_40_code 27 = .ok (.iconst 1, 1)) ∧ (decode prog_10_method_40_code 28 = .ok (.iload_n 2, 1)) ∧ (decode prog_10_method_40_code 29 = .ok (.ishl, 1)) ∧ (decode prog_10_method_40_code 30 = .ok (.ior, 1)) ∧ (decode prog_10_method_40_code 31 = .ok (.goto 15, 3)) ∧ (decode prog_10_method_40_code 34 = .ok (.aload_n 0, 1)) := by
  have h : List.drop 0 prog_10_method_40_code.data.toList = 0x2a :: _ := rfl
  refine ⟨zq_k_n 42 h rfl (zq_o_42 _), ?_⟩
  replace h := zq_nx1 (q := 1) h rfl
  refine ⟨zq_k_u2 180 (fun z => .getfield z) 7 h rfl (zq_o_180 _) (by decide +kernel), ?_⟩
  replace h := zq_nx3 (q := 4) h rfl
  refine ⟨zq_k_n 27 h rfl (zq_o_27 _), ?_⟩
  replace h := zq_nx1 (q := 5) h rfl
  refine ⟨zq_k_n 46 h rfl (zq_o_46 _), ?_⟩
  replace h := zq_nx1 (q := 6) h rfl
  refine ⟨zq_k_n 28 h rfl (zq_o_28 _), ?_⟩
  replace h := zq_nx1 (q := 7) h rfl
  refine ⟨zq_k_n 122 h rfl (zq_o_122 _), ?_⟩
  replace h := zq_nx1 (q := 8) h rfl
  refine ⟨zq_k_n 4 h rfl (zq_o_4 _), ?_⟩
  replace h := zq_nx1 (q := 9) h rfl
  refine ⟨zq_k_n 126 h rfl (zq_o_126 _), ?_⟩
  replace h := zq_nx1 (q := 10) h rfl
  refine ⟨zq_k_u1 54 (fun z => .istore z) 4 h rfl (zq_o_54 _) (by decide +kernel), ?_⟩
  replace h := zq_nx2 (q := 12) h rfl
  refine ⟨zq_k_n 42 h rfl (zq_o_42 _), ?_⟩
  replace h := zq_nx1 (q := 13) h rfl
  refine ⟨zq_k_u2 180 (fun z => .getfield z) 7 h rfl (zq_o_180 _) (by decide +kernel), ?_⟩
  replace h := zq_nx3 (q := 16) h rfl
  refine ⟨zq_k_n 27 h rfl (zq_o_27 _), ?_⟩
  replace h := zq_nx1 (q := 17) h rfl
  refine ⟨zq_k_n 29 h rfl (zq_o_29 _), ?_⟩
  replace h := zq_nx1 (q := 18) h rfl
  refine ⟨zq_k_s2 153 (fun z => .ifCond .eq z) 16 h rfl (zq_o_153 _) (by decide +kernel), ?_⟩
  replace h := zq_nx3 (q := 21) h rfl
  refine ⟨zq_k_n 42 h rfl (zq_o_42 _), ?_⟩
  replace h := zq_nx1 (q := 22) h rfl
  refine ⟨zq_k_u2 180 (fun z => .getfield z) 7 h rfl (zq_o_180 _) (by decide +kernel), ?_⟩
  replace h := zq_nx3 (q := 25) h rfl
  refine ⟨zq_k_n 27 h rfl (zq_o_27 _), ?_⟩
  replace h := zq_nx1 (q := 26) h rfl
  refine ⟨zq_k_n 46 h rfl (zq_o_46 _), ?_⟩
  replace h := zq_nx1 (q := 27) h rfl
  refine ⟨zq_k_n 4 h rfl (zq_o_4 _), ?_⟩
  replace h := zq_nx1 (q := 28) h rfl
  refine ⟨zq_k_n 28 h rfl (zq_o_28 _), ?_⟩
  replace h := zq_nx1 (q := 29) h rfl
  refine ⟨zq_k_n 120 h rfl (zq_o_120 _), ?_⟩
  replace h := zq_nx1 (q := 30) h rfl
  refine ⟨zq_k_n 128 h rfl (zq_o_128 _), ?_⟩
  replace h := zq_nx1 (q := 31) h rfl
  refine ⟨zq_k_s2 167 (fun z => .goto z) 15 h rfl (zq_o_167 _) (by decide +kernel), ?_⟩
  replace h := zq_nx3 (q := 34) h rfl
  exact zq_k_n 42 h rfl (zq_o_42 _)
theorem d_M_becomesBit_0 : decode prog_10_method_40_code 0 = .ok (.aload_n 0, 1) := dd_M_becomesBit_0.1
theorem d_M_becomesBit_1 : decode prog_10_method_40_code 1 = .ok (.getfield 7, 3) := dd_M_becomesBit_0.2.1
theorem d_M_becomesBit_4 : decode prog_10_method_40_code 4 = .ok (.iload_n 1, 1) := dd_M_becomesBit_0.2.2.1
theorem d_M_becomesBit_5 : decode prog_10_method_40_code 5 = .ok (.iaload, 1) := dd_M_becomesBit_0.2.2.2.1
theorem d_M_becomesBit_6 : decode prog_10_method_40_code 6 = .ok (.iload_n 2, 1) := dd_M_becomesBit_0.2.2.2.2.1
theorem d_M_becomesBit_7 : decode prog_10_method_40_code 7 = .ok (.ishr, 1) := dd_M_becomesBit_0.2.2.2.2.2.1
theorem d_M_becomesBit_8 : decode prog_10_method_40_code 8 = .ok (.iconst 1, 1) := dd_M_becomesBit_0.2.2.2.2.2.2.1
theorem d_M_becomesBit_9 : decode prog_10_method_40_code 9 = .ok (.iand, 1) := dd_M_becomesBit_0.2.2.2.2.2.2.2.1
theorem d_M_becomesBit_10 : decode prog_10_method_40_code 10 = .ok (.istore 4, 2) := dd_M_becomesBit_0.2.2.2.2.2.2.2.2.1
theorem d_M_becomesBit_12 : decode prog_10_method_40_code 12 = .ok (.aload_n 0, 1) := dd_M_becomesBit_0.2.2.2.2.2.2.2.2.2.1
theorem d_M_becomesBit_13 : decode prog_10_method_40_code 13 = .ok (.getfield 7, 3) := dd_M_becomesBit_0.2.2.2.2.2.2.2.2.2.2.1
theorem d_M_becomesBit_16 : decode prog_10_method_40_code 16 = .ok (.iload_n 1, 1) := dd_M_becomesBit_0.2.2.2.2.2.2.2.2.2.2.2.1
theorem d_M_becomesBit_17 : decode prog_10_method_40_code 17 = .ok (.iload_n 3, 1) := dd_M_becomesBit_0.2.2.2.2.2.2.2.2.2.2.2.2.1
theorem d_M_becomesBit_18 : decode prog_10_method_40_code 18 = .ok (.ifCond .eq 16, 3) := dd_M_becomesBit_0.2.2.2.2.2.2.2.2.2.2.2.2.2.1
theorem d_M_becomesBit_21 : decode prog_10_method_40_code 21 = .ok (.aload_n 0, 1) := dd_M_becomesBit_0.2.2.2.2.2.2.2.2.2.2.2.2.2.2.1
theorem d_M_becomesBit_22 : decode prog_10_method_40_code 22 = .ok (.getfield 7, 3) := dd_M_becomesBit_0.2.2.2.2.2.2.2.2.2.2.2.2.2.2.2.1
theorem d_M_becomesBit_25 : decode prog_10_method_40_code 25 = .ok (.iload_n 1, 1) := dd_M_becomesBit_0.2.2.2.2.2.2.2.2.2.2.2.2.2.2.2.2.1
theorem d_M_becomesBit_26 : decode prog_10_method_40_code 26 = .ok (.iaload, 1) := dd_M_becomesBit_0.2.2.2.2.2.2.2.2.2.2.2.2.2.2.2.2.2.1
theorem d_M_becomesBit_27 : decode prog_10_method_40_code 27 = .ok (.iconst 1, 1) := dd_M_becomesBit_0.2.2.2.2.2.2.2.2.2.2.2.2.2.2.2.2.2.2.1
theorem d_M_becomesBit_28 : decode prog_10_method_40_code 28 = .ok (.iload_n 2, 1) := dd_M_becomesBit_0.2.2.2.2.2.2.2.2.2.2.2.2.2.2.2.2.2.2.2.1
theorem d_M_becomesBit_29 : decode prog_10_method_40_code 29 = .ok (.ishl, 1) := dd_M_becomesBit_0.2.2.2.2.2.2.2.2.2.2.2.2.2.2.2.2.2.2.2.2.1
theorem d_M_becomesBit_30 : decode prog_10_method_40_code 30 = .ok (.ior, 1) := dd_M_becomesBit_0.2.2.2.2.2.2.2.2.2.2.2.2.2.2.2.2.2.2.2.2.2.1
theorem d_M_becomesBit_31 : decode prog_10_method_40_code 31 = .ok (.goto 15, 3) := dd_M_becomesBit_0.2.2.2.2.2.2.2.2.2.2.2.2.2.2.2.2.2.2.2.2.2.2.1
theorem d_M_becomesBit_34 : decode prog_10_method_40_code 34 = .ok (.aload_n 0, 1) := dd_M_becomesBit_0.2.2.2.2.2.2.2.2.2.2.2.2.2.2.2.2.2.2.2.2.2.2.2
set_option maxRecDepth 100000 in
theorem dd_M_becomesBit_35 : (decode prog_10_method_40_code 35 = .ok (.getfield 7, 3)) ∧ (decode prog_10_method_40_code 38 = .ok (.iload_n 1, 1)) ∧ (decode prog_10_method_40_code 39 = .ok (.iaload, 1)) ∧ (decode prog_10_method_40_code 40 = .ok (.iconst 1, 1)) ∧ (decode prog_10_method_40_code 41 = .ok (.iload_n 2, 1)) ∧ (decode prog_10_method_40_code 42 = .ok (.ishl, 1)) ∧ (decode prog_10_method_40_code 43 = .ok (.iconst (-1), 1)) ∧ (decode prog_10_method_40_code 44 = .ok (.ixor, 1)) ∧ (decode prog_10_method_40_code 45 = .ok (.iand, 1)) ∧ (decode prog_10_method_40_code 46 = .ok (.iastore, 1)) ∧ (decode prog_10_method_40_code 47 = .ok (.iload 4, 2)) ∧ (decode prog_10_method_40_code 49 = .ok (.ireturn, 1)) := by
  have h : List.drop 35 prog_10_method_40_code.data.toList = 0xb4 :: _ := rfl
  refine ⟨zq_k_u2 180 (fun z => .getfield z) 7 h rfl (zq_o_180 _) (by decide +kernel), ?_⟩
  replace h := zq_nx3 (q := 38) h rfl
  refine ⟨zq_k_n 27 h rfl (zq_o_27 _), ?_⟩
  replace h := zq_nx1 (q := 39) h rfl
  refine ⟨zq_k_n 46 h rfl (zq_o_46 _), ?_⟩
  replace h := zq_nx1 (q := 40) h rfl
  refine ⟨zq_k_n 4 h rfl (zq_o_4 _), ?_⟩
  replace h := zq_nx1 (q := 41) h rfl
  refine ⟨zq_k_n 28 h rfl (zq_o_28 _), ?_⟩
  replace h := zq_nx1 (q := 42) h rfl
  refine ⟨zq_k_n 120 h rfl (zq_o_120 _), ?_⟩
  replace h := zq_nx1 (q := 43) h rfl
  refine ⟨zq_k_n 2 h rfl (zq_o_2 _), ?_⟩
  replace h := zq_nx1 (q := 44) h rfl
  refine ⟨zq_k_n 130 h rfl (zq_o_130 _), ?_⟩
  replace h := zq_nx1 (q := 45) h rfl
  refine ⟨zq_k_n 126 h rfl (zq_o_126 _), ?_⟩
  replace h := zq_nx1 (q := 46) h rfl
  refine ⟨zq_k_n 79 h rfl (zq_o_79 _), ?_⟩
  replace h := zq_nx1 (q := 47) h rfl
  refine ⟨zq_k_u1 21 (fun z => .iload z) 4 h rfl (zq_o_21 _) (by decide +kernel), ?_⟩
  replace h := zq_nx2 (q := 49) h rfl
  exact zq_k_n 172 h rfl (zq_o_172 _)
theorem d_M_becomesBit_35 : decode prog_10_method_40_code 35 = .ok (.getfield 7, 3) := dd_M_becomesBit_35.1
theorem d_M_becomesBit_38 : decode prog_10_method_40_code 38 = .ok (.iload_n 1, 1) := dd_M_becomesBit_35.2.1
theorem d_M_becomesBit_39 : decode prog_10_method_40_code 39 = .ok (.iaload, 1) := dd_M_becomesBit_35.2.2.1
theorem d_M_becomesBit_40 : decode prog_10_method_40_code 40 = .ok (.iconst 1, 1) := dd_M_becomesBit_35.2.2.2.1
theorem d_M_becomesBit_41 : decode prog_10_method_40_code 41 = .ok (.iload_n 2, 1) := dd_M_becomesBit_35.2.2.2.2.1
theorem d_M_becomesBit_42 : decode prog_10_method_40_code 42 = .ok (.ishl, 1) := dd_M_becomesBit_35.2.2.2.2.2.1
theorem d_M_becomesBit_43 : decode prog_10_method_40_code 43 = .ok (.iconst (-1), 1) := dd_M_becomesBit_35.2.2.2.2.2.2.1
theorem d_M_becomesBit_44 : decode prog_10_method_40_code 44 = .ok (.ixor, 1) := dd_M_becomesBit_35.2.2.2.2.2.2.2.1
theorem d_M_becomesBit_45 : decode prog_10_method_40_code 45 = .ok (.iand, 1) := dd_M_becomesBit_35.2.2.2.2.2.2.2.2.1
theorem d_M_becomesBit_46 : decode prog_10_method_40_code 46 = .ok (.iastore, 1) := dd_M_becomesBit_35.2.2.2.2.2.2.2.2.2.1
theorem d_M_becomesBit_47 : decode prog_10_method_40_code 47 = .ok (.iload 4, 2) := dd_M_becomesBit_35.2.2.2.2.2.2.2.2.2.2.1
theorem d_M_becomesBit_49 : decode prog_10_method_40_code 49 = .ok (.ireturn, 1) := dd_M_becomesBit_35.2.2.2.2.2.2.2.2.2.2.2
def f_M_becomesBit_46  (b4 : Int32) (s0 : Nat) (s1 : Int32) (s2 : Int32) (h : mH) : Option (Int32 × mH) :=
  bd1 (sI h 0 s0 s1 s2) fun h16 =>
  some (b4, h16)
set_option maxRecDepth 20000 in
theorem t_M_becomesBit_46 {sc : Nat × (Nat → Int32)}  (b4 : Int32) (s0 : Nat) (s1 : Int32) (s2 : Int32) (h : mH) (r : Int32) (h' : mH) (hf : f_M_becomesBit_46  b4 s0 s1 s2 h = some (r, h')) : G sc y_M_becomesBit prog_10_method_40_code 5 (some .int) 0 0 46 [(4, .int b4)] [.int s2, .int s1, .ref s0] h (some (.int r)) h' := by
  unfold f_M_becomesBit_46 at hf
  obtain ⟨h16, e17, hf⟩ := bd1_e hf
  refine g_iast (pc := 46) d_M_becomesBit_46 e17 ?_
  refine g_iload (pc := 47) 0 d_M_becomesBit_47 rfl ?_
  obtain ⟨rfl, rfl⟩ := ret2 hf
  exact g_iret (pc := 49) rfl d_M_becomesBit_49
def f_M_becomesBit_0  (a0 : Nat) (a1 : Int32) (a2 : Int32) (a3 : Int32) (h : mH) : Option (Int32 × mH) :=
  bd1 (gR h a0 8 0) fun x1 =>
  bd1 (aI h 0 x1 a1) fun x3 =>
  bd1 (gR h a0 8 0) fun x5 =>
  if a3 = 0 then
    bd1 (gR h a0 8 0) fun x7 =>
    bd1 (aI h 0 x7 a1) fun x9 =>
    f_M_becomesBit_46  ((x3 >>> (a2 &&& 31)) &&& (1 : Int32)) x5 a1 (x9 &&& (((1 : Int32) <<< (a2 &&& 31)) ^^^ ((-1) : Int32))) h
  else
    bd1 (gR h a0 8 0) fun x11 =>
    bd1 (aI h 0 x11 a1) fun x13 =>
    f_M_becomesBit_46  ((x3 >>> (a2 &&& 31)) &&& (1 : Int32)) x5 a1 (x13 ||| ((1 : Int32) <<< (a2 &&& 31))) h
set_option maxRecDepth 20000 in
theorem t_M_becomesBit_0 {sc : Nat × (Nat → Int32)}  (a0 : Nat) (a1 : Int32) (a2 : Int32) (a3 : Int32) (h : mH) (r : Int32) (h' : mH) (hf : f_M_becomesBit_0  a0 a1 a2 a3 h = some (r, h')) : G sc y_M_becomesBit prog_10_method_40_code 5 (some .int) 0 0 0 [(0, .ref a0), (1, .int a1), (2, .int a2), (3, .int a3)] [] h (some (.int r)) h' := by
  unfold f_M_becomesBit_0 at hf
  refine g_aload_n (pc := 0) 0 d_M_becomesBit_0 rfl rfl ?_
  obtain ⟨x1, e2, hf⟩ := bd1_e hf
  refine g_get (pc := 1) (ci := 8) (kk := 0) d_M_becomesBit_1 rfl in_M (by decide) wd_938 (gR_spec e2) ?_
  refine g_iload_n (pc := 4) 1 d_M_becomesBit_4 rfl rfl ?_
  obtain ⟨x3, e4, hf⟩ := bd1_e hf
  refine g_iald (pc := 5) d_M_becomesBit_5 e4 ?_
  refine g_iload_n (pc := 6) 2 d_M_becomesBit_6 rfl rfl ?_
  refine g_ishr (pc := 7) d_M_becomesBit_7 ?_
  refine g_iconst (pc := 8) (1 : Int32) d_M_becomesBit_8 (by decide) ?_
  refine g_iand (pc := 9) d_M_becomesBit_9 ?_
  refine g_istore (pc := 10) [(4, .int ((x3 >>> (a2 &&& 31)) &&& (1 : Int32))), (0, .ref a0), (1, .int a1), (2, .int a2), (3, .int a3)] d_M_becomesBit_10 (Nat.le_of_ble_eq_true rfl) rfl ?_
  refine g_aload_n (pc := 12) 1 d_M_becomesBit_12 rfl rfl ?_
  obtain ⟨x5, e6, hf⟩ := bd1_e hf
  refine g_get (pc := 13) (ci := 8) (kk := 0) d_M_becomesBit_13 rfl in_M (by decide) wd_938 (gR_spec e6) ?_
  refine g_iload_n (pc := 16) 2 d_M_becomesBit_16 rfl rfl ?_
  refine g_iload_n (pc := 17) 4 d_M_becomesBit_17 rfl rfl ?_
  refine g_ifeq (pc := 18) 34 d_M_becomesBit_18 (by decide) (fun c15 => ?_) (fun c15 => ?_)
  · replace hf := (if_pos c15).symm.trans hf
    refine g_aload_n (pc := 34) 1 d_M_becomesBit_34 rfl rfl ?_
    obtain ⟨x7, e8, hf⟩ := bd1_e hf
    refine g_get (pc := 35) (ci := 8) (kk := 0) d_M_becomesBit_35 rfl in_M (by decide) wd_938 (gR_spec e8) ?_
    refine g_iload_n (pc := 38) 2 d_M_becomesBit_38 rfl rfl ?_
    obtain ⟨x9, e10, hf⟩ := bd1_e hf
    refine g_iald (pc := 39) d_M_becomesBit_39 e10 ?_
    refine g_iconst (pc := 40) (1 : Int32) d_M_becomesBit_40 (by decide) ?_
    refine g_iload_n (pc := 41) 3 d_M_becomesBit_41 rfl rfl ?_
    refine g_ishl (pc := 42) d_M_becomesBit_42 ?_
    refine g_iconst (pc := 43) ((-1) : Int32) d_M_becomesBit_43 (by decide) ?_
    refine g_ixor (pc := 44) d_M_becomesBit_44 ?_
    refine g_iand (pc := 45) d_M_becomesBit_45 ?_
    refine g_lv [0] rfl ?_
    exact t_M_becomesBit_46  _ _ _ _ _ _ _  hf
  · replace hf := (if_neg c15).symm.trans hf
    refine g_aload_n (pc := 21) 1 d_M_becomesBit_21 rfl rfl ?_
    obtain ⟨x11, e12, hf⟩ := bd1_e hf
    refine g_get (pc := 22) (ci := 8) (kk := 0) d_M_becomesBit_22 rfl in_M (by decide) wd_938 (gR_spec e12) ?_
    refine g_iload_n (pc := 25) 2 d_M_becomesBit_25 rfl rfl ?_
    obtain ⟨x13, e14, hf⟩ := bd1_e hf
    refine g_iald (pc := 26) d_M_becomesBit_26 e14 ?_
    refine g_iconst (pc := 27) (1 : Int32) d_M_becomesBit_27 (by decide) ?_
    refine g_iload_n (pc := 28) 3 d_M_becomesBit_28 rfl rfl ?_
    refine g_ishl (pc := 29) d_M_becomesBit_29 ?_
    refine g_ior (pc := 30) d_M_becomesBit_30 ?_
    refine g_goto (pc := 31) 46 d_M_becomesBit_31 (by decide) ?_
    refine g_lv [0] rfl ?_
    exact t_M_becomesBit_46  _ _ _ _ _ _ _  hf
def f_M_becomesBit (a0 : Nat) (a1 : Int32) (a2 : Int32) (a3 : Int32) (h : mH) : Option (Int32 × mH) := f_M_becomesBit_0 a0 a1 a2 a3 h
theorem c_M_becomesBit {sc : Nat × (Nat → Int32)} {a0 : Nat} {a1 : Int32} {a2 : Int32} {a3 : Int32} {h : mH} {r : Int32} {h' : mH} (hf : f_M_becomesBit a0 a1 a2 a3 h = some (r, h')) : MM sc y_M_becomesBit prog_10_method_40_code 5 (some .int) 0 0 [.ref a0, .int a1, .int a2, .int a3] h (some (.int r)) h' :=
  mm_of_G (by decide) (Nat.le_of_ble_eq_true rfl) (t_M_becomesBit_0 _ _ _ _ _ _ _ hf)
/-! M watch (IZ)I -/
set_option maxRecDepth 100000 in
theorem dd_M_watch_0 : (decode prog_10_method_43_code 0 = .ok (.aload_n 0, 1)) ∧ (decode prog_10_method_43_code 1 = .ok (.iload_n 1, 1)) ∧ (decode prog_10_method_43_code 2 = .ok (.invokevirtual 210, 3)) ∧ (decode prog_10_method_43_code 5 = .ok (.ifCond .eq 14, 3)) ∧ (decode prog_10_method_43_code 8 = .ok (.aload_n 0, 1)) ∧ (decode prog_10_method_43_code 9 = .ok (.bipush 11, 2)) ∧ (decode prog_10_method_43_code 11 = .ok (.iload_n 1, 1)) ∧ (decode prog_10_method_43_code 12 = .ok (.iload_n 2, 1)) ∧ (decode prog_10_method_43_code 13 = .ok (.invokevirtual 229, 3)) ∧ (decode prog_10_method_43_code 16 = .ok (.goto 4, 3)) ∧ (decode prog_10_method_43_code 19 = .ok (.iconst (-1), 1)) ∧ (decode prog_10_method_43_code 20 = .ok (.ireturn, 1)) := by
  have h : List.drop 0 prog_10_method_43_code.data.toList = 0x2a :: _ := rfl
  refine ⟨zq_k_n 42 h rfl (zq_o_42 _), ?_⟩
  replace h := zq_nx1 (q := 1) h rfl
  refine ⟨zq_k_n 27 h rfl (zq_o_27 _), ?_⟩
  replace h := zq_nx1 (q := 2) h rfl
  refine ⟨zq_k_u2 182 (fun z => .invokevirtual z) 210 h rfl (zq_o_182 _) (by decide +kernel), ?_⟩
  replace h := zq_nx3 (q := 5) h rfl
  refine ⟨zq_k_s2 153 (fun z => .ifCond .eq z) 14 h rfl (zq_o_153 _) (by decide +kernel), ?_⟩
  replace h := zq_nx3 (q := 8) h rfl
  refine ⟨zq_k_n 42 h rfl (zq_o_42 _), ?_⟩
  replace h := zq_nx1 (q := 9) h rfl
  refine ⟨zq_k_s1 16 (fun z => .bipush z) 11 h rfl (zq_o_16 _) (by decide +kernel), ?_⟩
  replace h := zq_nx2 (q := 11) h rfl
  refine ⟨zq_k_n 27 h rfl (zq_o_27 _), ?_⟩
  replace h := zq_nx1 (q := 12) h rfl
  refine ⟨zq_k_n 28 h rfl (zq_o_28 _), ?_⟩
  replace h := zq_nx1 (q := 13) h rfl
  refine ⟨zq_k_u2 182 (fun z => .invokevirtual z) 229 h rfl (zq_o_182 _) (by decide +kernel), ?_⟩
  replace h := zq_nx3 (q := 16) h rfl
  refine ⟨zq_k_s2 167 (fun z => .goto z) 4 h rfl (zq_o_167 _) (by decide +kernel), ?_⟩
  replace h := zq_nx3 (q := 19) h rfl
  refine ⟨zq_k_n 2 h rfl (zq_o_2 _), ?_⟩
  replace h := zq_nx1 (q := 20) h rfl
  exact zq_k_n 172 h rfl (zq_o_172 _)
theorem d_M_watch_0 : decode prog_10_method_43_code 0 = .ok (.aload_n 0, 1) := dd_M_watch_0.1
theorem d_M_watch_1 : decode prog_10_method_43_code 1 = .ok (.iload_n 1, 1) := dd_M_watch_0.2.1
theorem d_M_watch_2 : decode prog_10_method_43_code 2 = .ok (.invokevirtual 210, 3) := dd_M_watch_0.2.2.1
theorem d_M_watch_5 : decode prog_10_method_43_code 5 = .ok (.ifCond .eq 14, 3) := dd_M_watch_0.2.2.2.1
theorem d_M_watch_8 : decode prog_10_method_43_code 8 = .ok (.aload_n 0, 1) := dd_M_watch_0.2.2.2.2.1
theorem d_M_watch_9 : decode prog_10_method_43_code 9 = .ok (.bipush 11, 2) := dd_M_watch_0.2.2.2.2.2.1
theorem d_M_watch_11 : decode prog_10_method_43_code 11 = .ok (.iload_n 1, 1) := dd_M_watch_0.2.2.2.2.2.2.1
theorem d_M_watch_12 : decode prog_10_method_43_code 12 = .ok (.iload_n 2, 1) := dd_M_watch_0.2.2.2.2.2.2.2.1
theorem d_M_watch_13 : decode prog_10_method_43_code 13 = .ok (.invokevirtual 229, 3) := dd_M_watch_0.2.2.2.2.2.2.2.2.1
theorem d_M_watch_16 : decode prog_10_method_43_code 16 = .ok (.goto 4, 3) := dd_M_watch_0.2.2.2.2.2.2.2.2.2.1
theorem d_M_watch_19 : decode prog_10_method_43_code 19 = .ok (.iconst (-1), 1) := dd_M_watch_0.2.2.2.2.2.2.2.2.2.2.1
theorem d_M_watch_20 : decode prog_10_method_43_code 20 = .ok (.ireturn, 1) := dd_M_watch_0.2.2.2.2.2.2.2.2.2.2.2
def f_M_watch_0  (a0 : Nat) (a1 : Int32) (a2 : Int32) (h : mH) : Option (Int32 × mH) :=
  bd1 (kC h a0 8) fun _ =>
  bd2 (f_M_isLaw a0 a1 h) fun x5 h3 =>
  if x5 = 0 then
    some (((-1) : Int32), h3)
  else
    bd1 (kC h3 a0 8) fun _ =>
    bd2 (f_M_becomesBit a0 (11 : Int32) a1 a2 h3) fun x10 h8 =>
    some (x10, h8)
set_option maxRecDepth 20000 in
theorem t_M_watch_0 {sc : Nat × (Nat → Int32)}  (a0 : Nat) (a1 : Int32) (a2 : Int32) (h : mH) (r : Int32) (h' : mH) (hf : f_M_watch_0  a0 a1 a2 h = some (r, h')) : G sc y_M_watch prog_10_method_43_code 3 (some .int) 2 46 0 [(0, .ref a0), (1, .int a1), (2, .int a2)] [] h (some (.int r)) h' := by
  unfold f_M_watch_0 at hf
  refine g_aload_n (pc := 0) 0 d_M_watch_0 rfl rfl ?_
  refine g_iload_n (pc := 1) 1 d_M_watch_1 rfl rfl ?_
  obtain ⟨u2, e1, hf⟩ := bd1_e hf
  obtain ⟨x5, h3, e4, hf⟩ := bd2_e hf
  refine g_callV (pc := 2) (ci := 8) [.int a1] (site_of si_M_isLaw (by decide) (by decide)) wd_1136 wd_1138 wp_44 d_M_watch_2 rfl e1 (Nat.le_of_ble_eq_true rfl) (fun z => absurd z (by decide)) (fun z => absurd z (by decide)) (fun z => absurd z (by decide)) (c_M_isLaw e4) rfl ?_
  refine g_st [.int x5] rfl ?_
  refine g_ifeq (pc := 5) 19 d_M_watch_5 (by decide) (fun c11 => ?_) (fun c11 => ?_)
  · replace hf := (if_pos c11).symm.trans hf
    refine g_iconst (pc := 19) ((-1) : Int32) d_M_watch_19 (by decide) ?_
    obtain ⟨rfl, rfl⟩ := ret2 hf
    exact g_iret (pc := 20) rfl d_M_watch_20
  · replace hf := (if_neg c11).symm.trans hf
    refine g_aload_n (pc := 8) 0 d_M_watch_8 rfl rfl ?_
    refine g_bipush (pc := 9) (11 : Int32) d_M_watch_9 (by decide) ?_
    refine g_iload_n (pc := 11) 1 d_M_watch_11 rfl rfl ?_
    refine g_iload_n (pc := 12) 2 d_M_watch_12 rfl rfl ?_
    obtain ⟨u7, e6, hf⟩ := bd1_e hf
    obtain ⟨x10, h8, e9, hf⟩ := bd2_e hf
    refine g_callV (pc := 13) (ci := 8) [.int (11 : Int32), .int a1, .int a2] (site_of si_M_becomesBit (by decide) (by decide)) wd_1204 wd_1206 wp_55 d_M_watch_13 rfl e6 (Nat.le_of_ble_eq_true rfl) (fun z => absurd z (by decide)) (fun z => absurd z (by decide)) (fun z => absurd z (by decide)) (c_M_becomesBit e9) rfl ?_
    refine g_st [.int x10] rfl ?_
    refine g_goto (pc := 16) 20 d_M_watch_16 (by decide) ?_
    obtain ⟨rfl, rfl⟩ := ret2 hf
    exact g_iret (pc := 20) rfl d_M_watch_20
def f_M_watch (a0 : Nat) (a1 : Int32) (a2 : Int32) (h : mH) : Option (Int32 × mH) := f_M_watch_0 a0 a1 a2 h
theorem c_M_watch {sc : Nat × (Nat → Int32)} {a0 : Nat} {a1 : Int32} {a2 : Int32} {h : mH} {r : Int32} {h' : mH} (hf : f_M_watch a0 a1 a2 h = some (r, h')) : MM sc y_M_watch prog_10_method_43_code 3 (some .int) 2 46 [.ref a0, .int a1, .int a2] h (some (.int r)) h' :=
  mm_of_G (by decide) (Nat.le_of_ble_eq_true rfl) (t_M_watch_0 _ _ _ _ _ _ hf)
/-! M time (II)I -/
set_option maxRecDepth 100000 in
theorem dd_M_time_0 : (decode prog_10_method_44_code 0 = .ok (.aload_n 0, 1)) ∧ (decode prog_10_method_44_code 1 = .ok (.iload_n 1, 1)) ∧ (decode prog_10_method_44_code 2 = .ok (.invokevirtual 213, 3)) ∧ (decode prog_10_method_44_code 5 = .ok (.ifCond .eq 27, 3)) ∧ (decode prog_10_method_44_code 8 = .ok (.iload_n 2, 1)) ∧ (decode prog_10_method_44_code 9 = .ok (.i2l, 1)) ∧ (decode prog_10_method_44_code 10 = .ok (.lconst 0, 1)) ∧ (decode prog_10_method_44_code 11 = .ok (.ldc2_w 233, 3)) ∧ (decode prog_10_method_44_code 14 = .ok (.invokestatic 114, 3)) ∧ (decode prog_10_method_44_code 17 = .ok (.ifCond .eq 15, 3)) ∧ (decode prog_10_method_44_code 20 = .ok (.aload_n 0, 1)) ∧ (decode prog_10_method_44_code 21 = .ok (.bipush 12, 2)) ∧ (decode prog_10_method_44_code 23 = .ok (.iload_n 1, 1)) ∧ (decode prog_10_method_44_code 24 = .ok (.iadd, 1)) ∧ (decode prog_10_method_44_code 25 = .ok (.iload_n 2, 1)) ∧ (decode prog_10_method_44_code 26 = .ok (.invokevirtual 226, 3)) ∧ (decode prog_10_method_44_code 29 = .ok (.goto 4, 3)) ∧ (decode prog_10_method_44_code 32 = .ok (.iconst (-1), 1)) ∧ (decode prog_10_method_44_code 33 = .ok (.ireturn, 1)) := by
  have h : List.drop 0 prog_10_method_44_code.data.toList = 0x2a :: _ := rfl
  refine ⟨zq_k_n 42 h rfl (zq_o_42 _), ?_⟩
  replace h := zq_nx1 (q := 1) h rfl
  refine ⟨zq_k_n 27 h rfl (zq_o_27 _), ?_⟩
  replace h := zq_nx1 (q := 2) h rfl
  refine ⟨zq_k_u2 182 (fun z => .invokevirtual z) 213 h rfl (zq_o_182 _) (by decide +kernel), ?_⟩
  replace h := zq_nx3 (q := 5) h rfl
  refine ⟨zq_k_s2 153 (fun z => .ifCond .eq z) 27 h rfl (zq_o_153 _) (by decide +kernel), ?_⟩
  replace h := zq_nx3 (q := 8) h rfl
  refine ⟨zq_k_n 28 h rfl (zq_o_28 _), ?_⟩
  replace h := zq_nx1 (q := 9) h rfl
  refine ⟨zq_k_n 133 h rfl (zq_o_133 _), ?_⟩
  replace h := zq_nx1 (q := 10) h rfl
  refine ⟨zq_k_n 9 h rfl (zq_o_9 _), ?_⟩
  replace h := zq_nx1 (q := 11) h rfl
  refine ⟨zq_k_u2 20 (fun z => .ldc2_w z) 233 h rfl (zq_o_20 _) (by decide +kernel), ?_⟩
  replace h := zq_nx3 (q := 14) h rfl
  refine ⟨zq_k_u2 184 (fun z => .invokestatic z) 114 h rfl (zq_o_184 _) (by decide +kernel), ?_⟩
  replace h := zq_nx3 (q := 17) h rfl
  refine ⟨zq_k_s2 153 (fun z => .ifCond .eq z) 15 h rfl (zq_o_153 _) (by decide +kernel), ?_⟩
  replace h := zq_nx3 (q := 20) h rfl
  refine ⟨zq_k_n 42 h rfl (zq_o_42 _), ?_⟩
  replace h := zq_nx1 (q := 21) h rfl
  refine ⟨zq_k_s1 16 (fun z => .bipush z) 12 h rfl (zq_o_16 _) (by decide +kernel), ?_⟩
  replace h := zq_nx2 (q := 23) h rfl
  refine ⟨zq_k_n 27 h rfl (zq_o_27 _), ?_⟩
  replace h := zq_nx1 (q := 24) h rfl
  refine ⟨zq_k_n 96 h rfl (zq_o_96 _), ?_⟩
  replace h := zq_nx1 (q := 25) h rfl
  refine ⟨zq_k_n 28 h rfl (zq_o_28 _), ?_⟩
  replace h := zq_nx1 (q := 26) h rfl
  refine ⟨zq_k_u2 182 (fun z => .invokevirtual z) 226 h rfl (zq_o_182 _) (by decide +kernel), ?_⟩
  replace h := zq_nx3 (q := 29) h rfl
  refine ⟨zq_k_s2 167 (fun z => .goto z) 4 h rfl (zq_o_167 _) (by decide +kernel), ?_⟩
  replace h := zq_nx3 (q := 32) h rfl
  refine ⟨zq_k_n 2 h rfl (zq_o_2 _), ?_⟩
  replace h := zq_nx1 (q := 33) h rfl
  exact zq_k_n 172 h rfl (zq_o_172 _)
theorem d_M_time_0 : decode prog_10_method_44_code 0 = .ok (.aload_n 0, 1) := dd_M_time_0.1
theorem d_M_time_1 : decode prog_10_method_44_code 1 = .ok (.iload_n 1, 1) := dd_M_time_0.2.1
theorem d_M_time_2 : decode prog_10_method_44_code 2 = .ok (.invokevirtual 213, 3) := dd_M_time_0.2.2.1
theorem d_M_time_5 : decode prog_10_method_44_code 5 = .ok (.ifCond .eq 27, 3) := dd_M_time_0.2.2.2.1
theorem d_M_time_8 : decode prog_10_method_44_code 8 = .ok (.iload_n 2, 1) := dd_M_time_0.2.2.2.2.1
theorem d_M_time_9 : decode prog_10_method_44_code 9 = .ok (.i2l, 1) := dd_M_time_0.2.2.2.2.2.1
theorem d_M_time_10 : decode prog_10_method_44_code 10 = .ok (.lconst 0, 1) := dd_M_time_0.2.2.2.2.2.2.1
theorem d_M_time_11 : decode prog_10_method_44_code 11 = .ok (.ldc2_w 233, 3) := dd_M_time_0.2.2.2.2.2.2.2.1
theorem d_M_time_14 : decode prog_10_method_44_code 14 = .ok (.invokestatic 114, 3) := dd_M_time_0.2.2.2.2.2.2.2.2.1
theorem d_M_time_17 : decode prog_10_method_44_code 17 = .ok (.ifCond .eq 15, 3) := dd_M_time_0.2.2.2.2.2.2.2.2.2.1
theorem d_M_time_20 : decode prog_10_method_44_code 20 = .ok (.aload_n 0, 1) := dd_M_time_0.2.2.2.2.2.2.2.2.2.2.1
theorem d_M_time_21 : decode prog_10_method_44_code 21 = .ok (.bipush 12, 2) := dd_M_time_0.2.2.2.2.2.2.2.2.2.2.2.1
theorem d_M_time_23 : decode prog_10_method_44_code 23 = .ok (.iload_n 1, 1) := dd_M_time_0.2.2.2.2.2.2.2.2.2.2.2.2.1
theorem d_M_time_24 : decode prog_10_method_44_code 24 = .ok (.iadd, 1) := dd_M_time_0.2.2.2.2.2.2.2.2.2.2.2.2.2.1
theorem d_M_time_25 : decode prog_10_method_44_code 25 = .ok (.iload_n 2, 1) := dd_M_time_0.2.2.2.2.2.2.2.2.2.2.2.2.2.2.1
theorem d_M_time_26 : decode prog_10_method_44_code 26 = .ok (.invokevirtual 226, 3) := dd_M_time_0.2.2.2.2.2.2.2.2.2.2.2.2.2.2.2.1
theorem d_M_time_29 : decode prog_10_method_44_code 29 = .ok (.goto 4, 3) := dd_M_time_0.2.2.2.2.2.2.2.2.2.2.2.2.2.2.2.2.1
theorem d_M_time_32 : decode prog_10_method_44_code 32 = .ok (.iconst (-1), 1) := dd_M_time_0.2.2.2.2.2.2.2.2.2.2.2.2.2.2.2.2.2.1
theorem d_M_time_33 : decode prog_10_method_44_code 33 = .ok (.ireturn, 1) := dd_M_time_0.2.2.2.2.2.2.2.2.2.2.2.2.2.2.2.2.2.2
def f_M_time_32   (h : mH) : Option (Int32 × mH) :=
  some (((-1) : Int32), h)
set_option maxRecDepth 20000 in
theorem t_M_time_32 {sc : Nat × (Nat → Int32)}   (h : mH) (r : Int32) (h' : mH) (hf : f_M_time_32   h = some (r, h')) : G sc y_M_time prog_10_method_44_code 3 (some .int) 2 46 32 [] [] h (some (.int r)) h' := by
  unfold f_M_time_32 at hf
  refine g_iconst (pc := 32) ((-1) : Int32) d_M_time_32 (by decide) ?_
  obtain ⟨rfl, rfl⟩ := ret2 hf
  exact g_iret (pc := 33) rfl d_M_time_33
def f_M_time_0  (a0 : Nat) (a1 : Int32) (a2 : Int32) (h : mH) : Option (Int32 × mH) :=
  bd1 (kC h a0 8) fun _ =>
  bd2 (f_M_isOne a0 a1 h) fun x5 h3 =>
  if x5 = 0 then
    f_M_time_32  h3
  else
    bd2 (f_M_in a2.toInt64 (0 : Int64) (5 : Int64) h3) fun x8 h6 =>
    if x8 = 0 then
      f_M_time_32  h6
    else
      bd1 (kC h6 a0 8) fun _ =>
      bd2 (f_M_becomes a0 ((12 : Int32) + a1) a2 h6) fun x13 h11 =>
      some (x13, h11)
set_option maxRecDepth 20000 in
theorem t_M_time_0 {sc : Nat × (Nat → Int32)}  (a0 : Nat) (a1 : Int32) (a2 : Int32) (h : mH) (r : Int32) (h' : mH) (hf : f_M_time_0  a0 a1 a2 h = some (r, h')) : G sc y_M_time prog_10_method_44_code 3 (some .int) 2 46 0 [(0, .ref a0), (1, .int a1), (2, .int a2)] [] h (some (.int r)) h' := by
  unfold f_M_time_0 at hf
  refine g_aload_n (pc := 0) 0 d_M_time_0 rfl rfl ?_
  refine g_iload_n (pc := 1) 1 d_M_time_1 rfl rfl ?_
  obtain ⟨u2, e1, hf⟩ := bd1_e hf
  obtain ⟨x5, h3, e4, hf⟩ := bd2_e hf
  refine g_callV (pc := 2) (ci := 8) [.int a1] (site_of si_M_isOne (by decide) (by decide)) wd_1160 wd_1162 wp_49 d_M_time_2 rfl e1 (Nat.le_of_ble_eq_true rfl) (fun z => absurd z (by decide)) (fun z => absurd z (by decide)) (fun z => absurd z (by decide)) (c_M_isOne e4) rfl ?_
  refine g_st [.int x5] rfl ?_
  refine g_ifeq (pc := 5) 32 d_M_time_5 (by decide) (fun c15 => ?_) (fun c15 => ?_)
  · replace hf := (if_pos c15).symm.trans hf
    refine g_lv [] rfl ?_
    exact t_M_time_32  _ _ _  hf
  · replace hf := (if_neg c15).symm.trans hf
    refine g_iload_n (pc := 8) 2 d_M_time_8 rfl rfl ?_
    refine g_i2l (pc := 9) d_M_time_9 ?_
    refine g_lconst (pc := 10) (0 : Int64) d_M_time_10 (by decide) ?_
    refine g_ldc2 (pc := 11) (5 : Int64) d_M_time_11 wd_1212 ?_
    obtain ⟨x8, h6, e7, hf⟩ := bd2_e hf
    refine g_callS (pc := 14) [.long a2.toInt64, .long (0 : Int64), .long (5 : Int64)] (site_of si_M_in (by decide) (by decide)) wd_1061 wd_1062 d_M_time_14 (Nat.le_of_ble_eq_true rfl) (fun z => absurd z (by decide)) (fun z => absurd z (by decide)) (fun z => absurd z (by decide)) (c_M_in e7) rfl ?_
    refine g_st [.int x8] rfl ?_
    refine g_ifeq (pc := 17) 32 d_M_time_17 (by decide) (fun c14 => ?_) (fun c14 => ?_)
    · replace hf := (if_pos c14).symm.trans hf
      refine g_lv [] rfl ?_
      exact t_M_time_32  _ _ _  hf
    · replace hf := (if_neg c14).symm.trans hf
      refine g_aload_n (pc := 20) 0 d_M_time_20 rfl rfl ?_
      refine g_bipush (pc := 21) (12 : Int32) d_M_time_21 (by decide) ?_
      refine g_iload_n (pc := 23) 1 d_M_time_23 rfl rfl ?_
      refine g_iadd (pc := 24) d_M_time_24 ?_
      refine g_iload_n (pc := 25) 2 d_M_time_25 rfl rfl ?_
      obtain ⟨u10, e9, hf⟩ := bd1_e hf
      obtain ⟨x13, h11, e12, hf⟩ := bd2_e hf
      refine g_callV (pc := 26) (ci := 8) [.int ((12 : Int32) + a1), .int a2] (site_of si_M_becomes (by decide) (by decide)) wd_1192 wd_1194 wp_54 d_M_time_26 rfl e9 (Nat.le_of_ble_eq_true rfl) (fun z => absurd z (by decide)) (fun z => absurd z (by decide)) (fun z => absurd z (by decide)) (c_M_becomes e12) rfl ?_
      refine g_st [.int x13] rfl ?_
      refine g_goto (pc := 29) 33 d_M_time_29 (by decide) ?_
      obtain ⟨rfl, rfl⟩ := ret2 hf
      exact g_iret (pc := 33) rfl d_M_time_33
def f_M_time (a0 : Nat) (a1 : Int32) (a2 : Int32) (h : mH) : Option (Int32 × mH) := f_M_time_0 a0 a1 a2 h
theorem c_M_time {sc : Nat × (Nat → Int32)} {a0 : Nat} {a1 : Int32} {a2 : Int32} {h : mH} {r : Int32} {h' : mH} (hf : f_M_time a0 a1 a2 h = some (r, h')) : MM sc y_M_time prog_10_method_44_code 3 (some .int) 2 46 [.ref a0, .int a1, .int a2] h (some (.int r)) h' :=
  mm_of_G (by decide) (Nat.le_of_ble_eq_true rfl) (t_M_time_0 _ _ _ _ _ _ hf)
/-! M refuse (IIZ)I -/
set_option maxRecDepth 100000 in
theorem dd_M_refuse_0 : (decode prog_10_method_45_code 0 = .ok (.aload_n 0, 1)) ∧ (decode prog_10_method_45_code 1 = .ok (.iload_n 1, 1)) ∧ (decode prog_10_method_45_code 2 = .ok (.invokevirtual 213, 3)) ∧ (decode prog_10_method_45_code 5 = .ok (.ifCond .eq 24, 3)) ∧ (decode prog_10_method_45_code 8 = .ok (.aload_n 0, 1)) ∧ (decode prog_10_method_45_code 9 = .ok (.iload_n 2, 1)) ∧ (decode prog_10_method_45_code 10 = .ok (.invokevirtual 210, 3)) ∧ (decode prog_10_method_45_code 13 = .ok (.ifCond .eq 16, 3)) ∧ (decode prog_10_method_45_code 16 = .ok (.aload_n 0, 1)) ∧ (decode prog_10_method_45_code 17 = .ok (.bipush 18, 2)) ∧ (decode prog_10_method_45_code 19 = .ok (.iload_n 1, 1)) ∧ (decode prog_10_method_45_code 20 = .ok (.iadd, 1)) ∧ (decode prog_10_method_45_code 21 = .ok (.iload_n 2, 1)) ∧ (decode prog_10_method_45_code 22 = .ok (.iload_n 3, 1)) ∧ (decode prog_10_method_45_code 23 = .ok (.invokevirtual 229, 3)) ∧ (decode prog_10_method_45_code 26 = .ok (.goto 4, 3)) ∧ (decode prog_10_method_45_code 29 = .ok (.iconst (-1), 1)) ∧ (decode prog_10_method_45_code 30 = .ok (.ireturn, 1)) := by
  have h : List.drop 0 prog_10_method_45_code.data.toList = 0x2a :: _ := rfl
  refine ⟨zq_k_n 42 h rfl (zq_o_42 _), ?_⟩
  replace h := zq_nx1 (q := 1) h rfl
  refine ⟨zq_k_n 27 h rfl (zq_o_27 _), ?_⟩
  replace h := zq_nx1 (q := 2) h rfl
  refine ⟨zq_k_u2 182 (fun z => .invokevirtual z) 213 h rfl (zq_o_182 _) (by decide +kernel), ?_⟩
  replace h := zq_nx3 (q := 5) h rfl
  refine ⟨zq_k_s2 153 (fun z => .ifCond .eq z) 24 h rfl (zq_o_153 _) (by decide +kernel), ?_⟩
  replace h := zq_nx3 (q := 8) h rfl
  refine ⟨zq_k_n 42 h rfl (zq_o_42 _), ?_⟩
  replace h := zq_nx1 (q := 9) h rfl
  refine ⟨zq_k_n 28 h rfl (zq_o_28 _), ?_⟩
  replace h := zq_nx1 (q := 10) h rfl
  refine ⟨zq_k_u2 182 (fun z => .invokevirtual z) 210 h rfl (zq_o_182 _) (by decide +kernel), ?_⟩
  replace h := zq_nx3 (q := 13) h rfl
  refine ⟨zq_k_s2 153 (fun z => .ifCond .eq z) 16 h rfl (zq_o_153 _) (by decide +kernel), ?_⟩
  replace h := zq_nx3 (q := 16) h rfl
  refine ⟨zq_k_n 42 h rfl (zq_o_42 _), ?_⟩
  replace h := zq_nx1 (q := 17) h rfl
  refine ⟨zq_k_s1 16 (fun z => .bipush z) 18 h rfl (zq_o_16 _) (by decide +kernel), ?_⟩
  replace h := zq_nx2 (q := 19) h rfl
  refine ⟨zq_k_n 27 h rfl (zq_o_27 _), ?_⟩
  replace h := zq_nx1 (q := 20) h rfl
  refine ⟨zq_k_n 96 h rfl (zq_o_96 _), ?_⟩
  replace h := zq_nx1 (q := 21) h rfl
  refine ⟨zq_k_n 28 h rfl (zq_o_28 _), ?_⟩
  replace h := zq_nx1 (q := 22) h rfl
  refine ⟨zq_k_n 29 h rfl (zq_o_29 _), ?_⟩
  replace h := zq_nx1 (q := 23) h rfl
  refine ⟨zq_k_u2 182 (fun z => .invokevirtual z) 229 h rfl (zq_o_182 _) (by decide +kernel), ?_⟩
  replace h := zq_nx3 (q := 26) h rfl
  refine ⟨zq_k_s2 167 (fun z => .goto z) 4 h rfl (zq_o_167 _) (by decide +kernel), ?_⟩
  replace h := zq_nx3 (q := 29) h rfl
  refine ⟨zq_k_n 2 h rfl (zq_o_2 _), ?_⟩
  replace h := zq_nx1 (q := 30) h rfl
  exact zq_k_n 172 h rfl (zq_o_172 _)
theorem d_M_refuse_0 : decode prog_10_method_45_code 0 = .ok (.aload_n 0, 1) := dd_M_refuse_0.1
theorem d_M_refuse_1 : decode prog_10_method_45_code 1 = .ok (.iload_n 1, 1) := dd_M_refuse_0.2.1
theorem d_M_refuse_2 : decode prog_10_method_45_code 2 = .ok (.invokevirtual 213, 3) := dd_M_refuse_0.2.2.1
theorem d_M_refuse_5 : decode prog_10_method_45_code 5 = .ok (.ifCond .eq 24, 3) := dd_M_refuse_0.2.2.2.1
theorem d_M_refuse_8 : decode prog_10_method_45_code 8 = .ok (.aload_n 0, 1) := dd_M_refuse_0.2.2.2.2.1
theorem d_M_refuse_9 : decode prog_10_method_45_code 9 = .ok (.iload_n 2, 1) := dd_M_refuse_0.2.2.2.2.2.1
theorem d_M_refuse_10 : decode prog_10_method_45_code 10 = .ok (.invokevirtual 210, 3) := dd_M_refuse_0.2.2.2.2.2.2.1
theorem d_M_refuse_13 : decode prog_10_method_45_code 13 = .ok (.ifCond .eq 16, 3) := dd_M_refuse_0.2.2.2.2.2.2.2.1
theorem d_M_refuse_16 : decode prog_10_method_45_code 16 = .ok (.aload_n 0, 1) := dd_M_refuse_0.2.2.2.2.2.2.2.2.1
theorem d_M_refuse_17 : decode prog_10_method_45_code 17 = .ok (.bipush 18, 2) := dd_M_refuse_0.2.2.2.2.2.2.2.2.2.1
theorem d_M_refuse_19 : decode prog_10_method_45_code 19 = .ok (.iload_n 1, 1) := dd_M_refuse_0.2.2.2.2.2.2.2.2.2.2.1
theorem d_M_refuse_20 : decode prog_10_method_45_code 20 = .ok (.iadd, 1) := dd_M_refuse_0.2.2.2.2.2.2.2.2.2.2.2.1
theorem d_M_refuse_21 : decode prog_10_method_45_code 21 = .ok (.iload_n 2, 1) := dd_M_refuse_0.2.2.2.2.2.2.2.2.2.2.2.2.1
theorem d_M_refuse_22 : decode prog_10_method_45_code 22 = .ok (.iload_n 3, 1) := dd_M_refuse_0.2.2.2.2.2.2.2.2.2.2.2.2.2.1
theorem d_M_refuse_23 : decode prog_10_method_45_code 23 = .ok (.invokevirtual 229, 3) := dd_M_refuse_0.2.2.2.2.2.2.2.2.2.2.2.2.2.2.1
theorem d_M_refuse_26 : decode prog_10_method_45_code 26 = .ok (.goto 4, 3) := dd_M_refuse_0.2.2.2.2.2.2.2.2.2.2.2.2.2.2.2.1
theorem d_M_refuse_29 : decode prog_10_method_45_code 29 = .ok (.iconst (-1), 1) := dd_M_refuse_0.2.2.2.2.2.2.2.2.2.2.2.2.2.2.2.2.1
theorem d_M_refuse_30 : decode prog_10_method_45_code 30 = .ok (.ireturn, 1) := dd_M_refuse_0.2.2.2.2.2.2.2.2.2.2.2.2.2.2.2.2.2
def f_M_refuse_29   (h : mH) : Option (Int32 × mH) :=
  some (((-1) : Int32), h)
set_option maxRecDepth 20000 in
theorem t_M_refuse_29 {sc : Nat × (Nat → Int32)}   (h : mH) (r : Int32) (h' : mH) (hf : f_M_refuse_29   h = some (r, h')) : G sc y_M_refuse prog_10_method_45_code 4 (some .int) 2 46 29 [] [] h (some (.int r)) h' := by
  unfold f_M_refuse_29 at hf
  refine g_iconst (pc := 29) ((-1) : Int32) d_M_refuse_29 (by decide) ?_
  obtain ⟨rfl, rfl⟩ := ret2 hf
  exact g_iret (pc := 30) rfl d_M_refuse_30
def f_M_refuse_0  (a0 : Nat) (a1 : Int32) (a2 : Int32) (a3 : Int32) (h : mH) : Option (Int32 × mH) :=
  bd1 (kC h a0 8) fun _ =>
  bd2 (f_M_isOne a0 a1 h) fun x5 h3 =>
  if x5 = 0 then
    f_M_refuse_29  h3
  else
    bd1 (kC h3 a0 8) fun _ =>
    bd2 (f_M_isLaw a0 a2 h3) fun x10 h8 =>
    if x10 = 0 then
      f_M_refuse_29  h8
    else
      bd1 (kC h8 a0 8) fun _ =>
      bd2 (f_M_becomesBit a0 ((18 : Int32) + a1) a2 a3 h8) fun x15 h13 =>
      some (x15, h13)
set_option maxRecDepth 20000 in
theorem t_M_refuse_0 {sc : Nat × (Nat → Int32)}  (a0 : Nat) (a1 : Int32) (a2 : Int32) (a3 : Int32) (h : mH) (r : Int32) (h' : mH) (hf : f_M_refuse_0  a0 a1 a2 a3 h = some (r, h')) : G sc y_M_refuse prog_10_method_45_code 4 (some .int) 2 46 0 [(0, .ref a0), (1, .int a1), (2, .int a2), (3, .int a3)] [] h (some (.int r)) h' := by
  unfold f_M_refuse_0 at hf
  refine g_aload_n (pc := 0) 0 d_M_refuse_0 rfl rfl ?_
  refine g_iload_n (pc := 1) 1 d_M_refuse_1 rfl rfl ?_
  obtain ⟨u2, e1, hf⟩ := bd1_e hf
  obtain ⟨x5, h3, e4, hf⟩ := bd2_e hf
  refine g_callV (pc := 2) (ci := 8) [.int a1] (site_of si_M_isOne (by decide) (by decide)) wd_1160 wd_1162 wp_49 d_M_refuse_2 rfl e1 (Nat.le_of_ble_eq_true rfl) (fun z => absurd z (by decide)) (fun z => absurd z (by decide)) (fun z => absurd z (by decide)) (c_M_isOne e4) rfl ?_
  refine g_st [.int x5] rfl ?_
  refine g_ifeq (pc := 5) 29 d_M_refuse_5 (by decide) (fun c17 => ?_) (fun c17 => ?_)
  · replace hf := (if_pos c17).symm.trans hf
    refine g_lv [] rfl ?_
    exact t_M_refuse_29  _ _ _  hf
  · replace hf := (if_neg c17).symm.trans hf
    refine g_aload_n (pc := 8) 0 d_M_refuse_8 rfl rfl ?_
    refine g_iload_n (pc := 9) 2 d_M_refuse_9 rfl rfl ?_
    obtain ⟨u7, e6, hf⟩ := bd1_e hf
    obtain ⟨x10, h8, e9, hf⟩ := bd2_e hf
    refine g_callV (pc := 10) (ci := 8) [.int a2] (site_of si_M_isLaw (by decide) (by decide)) wd_1136 wd_1138 wp_44 d_M_refuse_10 rfl e6 (Nat.le_of_ble_eq_true rfl) (fun z => absurd z (by decide)) (fun z => absurd z (by decide)) (fun z => absurd z (by decide)) (c_M_isLaw e9) rfl ?_
    refine g_st [.int x10] rfl ?_
    refine g_ifeq (pc := 13) 29 d_M_refuse_13 (by decide) (fun c16 => ?_) (fun c16 => ?_)
    · replace hf := (if_pos c16).symm.trans hf
      refine g_lv [] rfl ?_
      exact t_M_refuse_29  _ _ _  hf
    · replace hf := (if_neg c16).symm.trans hf
      refine g_aload_n (pc := 16) 0 d_M_refuse_16 rfl rfl ?_
      refine g_bipush (pc := 17) (18 : Int32) d_M_refuse_17 (by decide) ?_
      refine g_iload_n (pc := 19) 1 d_M_refuse_19 rfl rfl ?_
      refine g_iadd (pc := 20) d_M_refuse_20 ?_
      refine g_iload_n (pc := 21) 2 d_M_refuse_21 rfl rfl ?_
      refine g_iload_n (pc := 22) 3 d_M_refuse_22 rfl rfl ?_
      obtain ⟨u12, e11, hf⟩ := bd1_e hf
      obtain ⟨x15, h13, e14, hf⟩ := bd2_e hf
      refine g_callV (pc := 23) (ci := 8) [.int ((18 : Int32) + a1), .int a2, .int a3] (site_of si_M_becomesBit (by decide) (by decide)) wd_1204 wd_1206 wp_55 d_M_refuse_23 rfl e11 (Nat.le_of_ble_eq_true rfl) (fun z => absurd z (by decide)) (fun z => absurd z (by decide)) (fun z => absurd z (by decide)) (c_M_becomesBit e14) rfl ?_
      refine g_st [.int x15] rfl ?_
      refine g_goto (pc := 26) 30 d_M_refuse_26 (by decide) ?_
      obtain ⟨rfl, rfl⟩ := ret2 hf
      exact g_iret (pc := 30) rfl d_M_refuse_30
def f_M_refuse (a0 : Nat) (a1 : Int32) (a2 : Int32) (a3 : Int32) (h : mH) : Option (Int32 × mH) := f_M_refuse_0 a0 a1 a2 a3 h
theorem c_M_refuse {sc : Nat × (Nat → Int32)} {a0 : Nat} {a1 : Int32} {a2 : Int32} {a3 : Int32} {h : mH} {r : Int32} {h' : mH} (hf : f_M_refuse a0 a1 a2 a3 h = some (r, h')) : MM sc y_M_refuse prog_10_method_45_code 4 (some .int) 2 46 [.ref a0, .int a1, .int a2, .int a3] h (some (.int r)) h' :=
  mm_of_G (by decide) (Nat.le_of_ble_eq_true rfl) (t_M_refuse_0 _ _ _ _ _ _ _ hf)
/-! M want (IIZ)I -/
set_option maxRecDepth 100000 in
theorem dd_M_want_0 : (decode prog_10_method_46_code 0 = .ok (.aload_n 0, 1)) ∧ (decode prog_10_method_46_code 1 = .ok (.iload_n 1, 1)) ∧ (decode prog_10_method_46_code 2 = .ok (.invokevirtual 213, 3)) ∧ (decode prog_10_method_46_code 5 = .ok (.ifCond .eq 24, 3)) ∧ (decode prog_10_method_46_code 8 = .ok (.aload_n 0, 1)) ∧ (decode prog_10_method_46_code 9 = .ok (.iload_n 2, 1)) ∧ (decode prog_10_method_46_code 10 = .ok (.invokevirtual 210, 3)) ∧ (decode prog_10_method_46_code 13 = .ok (.ifCond .eq 16, 3)) ∧ (decode prog_10_method_46_code 16 = .ok (.aload_n 0, 1)) ∧ (decode prog_10_method_46_code 17 = .ok (.bipush 21, 2)) ∧ (decode prog_10_method_46_code 19 = .ok (.iload_n 1, 1)) ∧ (decode prog_10_method_46_code 20 = .ok (.iadd, 1)) ∧ (decode prog_10_method_46_code 21 = .ok (.iload_n 2, 1)) ∧ (decode prog_10_method_46_code 22 = .ok (.iload_n 3, 1)) ∧ (decode prog_10_method_46_code 23 = .ok (.invokevirtual 229, 3)) ∧ (decode prog_10_method_46_code 26 = .ok (.goto 4, 3)) ∧ (decode prog_10_method_46_code 29 = .ok (.iconst (-1), 1)) ∧ (decode prog_10_method_46_code 30 = .ok (.ireturn, 1)) := by
  have h : List.drop 0 prog_10_method_46_code.data.toList = 0x2a :: _ := rfl
  refine ⟨zq_k_n 42 h rfl (zq_o_42 _), ?_⟩
  replace h := zq_nx1 (q := 1) h rfl
  refine ⟨zq_k_n 27 h rfl (zq_o_27 _), ?_⟩
  replace h := zq_nx1 (q := 2) h rfl
  refine ⟨zq_k_u2 182 (fun z => .invokevirtual z) 213 h rfl (zq_o_182 _) (by decide +kernel), ?_⟩
  replace h := zq_nx3 (q := 5) h rfl
  refine ⟨zq_k_s2 153 (fun z => .ifCond .eq z) 24 h rfl (zq_o_153 _) (by decide +kernel), ?_⟩
  replace h := zq_nx3 (q := 8) h rfl
  refine ⟨zq_k_n 42 h rfl (zq_o_42 _), ?_⟩
  replace h := zq_nx1 (q := 9) h rfl
  refine ⟨zq_k_n 28 h rfl (zq_o_28 _), ?_⟩
  replace h := zq_nx1 (q := 10) h rfl
  refine ⟨zq_k_u2 182 (fun z => .invokevirtual z) 210 h rfl (zq_o_182 _) (by decide +kernel), ?_⟩
  replace h := zq_nx3 (q := 13) h rfl
  refine ⟨zq_k_s2 153 (fun z => .ifCond .eq z) 16 h rfl (zq_o_153 _) (by decide +kernel), ?_⟩
  replace h := zq_nx3 (q := 16) h rfl
  refine ⟨zq_k_n 42 h rfl (zq_o_42 _), ?_⟩
  replace h := zq_nx1 (q := 17) h rfl
  refine ⟨zq_k_s1 16 (fun z => .bipush z) 21 h rfl (zq_o_16 _) (by decide +kernel), ?_⟩
  replace h := zq_nx2 (q := 19) h rfl
  refine ⟨zq_k_n 27 h rfl (zq_o_27 _), ?_⟩
  replace h := zq_nx1 (q := 20) h rfl
  refine ⟨zq_k_n 96 h rfl (zq_o_96 _), ?_⟩
  replace h := zq_nx1 (q := 21) h rfl
  refine ⟨zq_k_n 28 h rfl (zq_o_28 _), ?_⟩
  replace h := zq_nx1 (q := 22) h rfl
  refine ⟨zq_k_n 29 h rfl (zq_o_29 _), ?_⟩
  replace h := zq_nx1 (q := 23) h rfl
  refine ⟨zq_k_u2 182 (fun z => .invokevirtual z) 229 h rfl (zq_o_182 _) (by decide +kernel), ?_⟩
  replace h := zq_nx3 (q := 26) h rfl
  refine ⟨zq_k_s2 167 (fun z => .goto z) 4 h rfl (zq_o_167 _) (by decide +kernel), ?_⟩
  replace h := zq_nx3 (q := 29) h rfl
  refine ⟨zq_k_n 2 h rfl (zq_o_2 _), ?_⟩
  replace h := zq_nx1 (q := 30) h rfl
  exact zq_k_n 172 h rfl (zq_o_172 _)
theorem d_M_want_0 : decode prog_10_method_46_code 0 = .ok (.aload_n 0, 1) := dd_M_want_0.1
theorem d_M_want_1 : decode prog_10_method_46_code 1 = .ok (.iload_n 1, 1) := dd_M_want_0.2.1
theorem d_M_want_2 : decode prog_10_method_46_code 2 = .ok (.invokevirtual 213, 3) := dd_M_want_0.2.2.1
theorem d_M_want_5 : decode prog_10_method_46_code 5 = .ok (.ifCond .eq 24, 3) := dd_M_want_0.2.2.2.1
theorem d_M_want_8 : decode prog_10_method_46_code 8 = .ok (.aload_n 0, 1) := dd_M_want_0.2.2.2.2.1
theorem d_M_want_9 : decode prog_10_method_46_code 9 = .ok (.iload_n 2, 1) := dd_M_want_0.2.2.2.2.2.1
theorem d_M_want_10 : decode prog_10_method_46_code 10 = .ok (.invokevirtual 210, 3) := dd_M_want_0.2.2.2.2.2.2.1
theorem d_M_want_13 : decode prog_10_method_46_code 13 = .ok (.ifCond .eq 16, 3) := dd_M_want_0.2.2.2.2.2.2.2.1
theorem d_M_want_16 : decode prog_10_method_46_code 16 = .ok (.aload_n 0, 1) := dd_M_want_0.2.2.2.2.2.2.2.2.1
theorem d_M_want_17 : decode prog_10_method_46_code 17 = .ok (.bipush 21, 2) := dd_M_want_0.2.2.2.2.2.2.2.2.2.1
theorem d_M_want_19 : decode prog_10_method_46_code 19 = .ok (.iload_n 1, 1) := dd_M_want_0.2.2.2.2.2.2.2.2.2.2.1
theorem d_M_want_20 : decode prog_10_method_46_code 20 = .ok (.iadd, 1) := dd_M_want_0.2.2.2.2.2.2.2.2.2.2.2.1
theorem d_M_want_21 : decode prog_10_method_46_code 21 = .ok (.iload_n 2, 1) := dd_M_want_0.2.2.2.2.2.2.2.2.2.2.2.2.1
theorem d_M_want_22 : decode prog_10_method_46_code 22 = .ok (.iload_n 3, 1) := dd_M_want_0.2.2.2.2.2.2.2.2.2.2.2.2.2.1
theorem d_M_want_23 : decode prog_10_method_46_code 23 = .ok (.invokevirtual 229, 3) := dd_M_want_0.2.2.2.2.2.2.2.2.2.2.2.2.2.2.1
theorem d_M_want_26 : decode prog_10_method_46_code 26 = .ok (.goto 4, 3) := dd_M_want_0.2.2.2.2.2.2.2.2.2.2.2.2.2.2.2.1
theorem d_M_want_29 : decode prog_10_method_46_code 29 = .ok (.iconst (-1), 1) := dd_M_want_0.2.2.2.2.2.2.2.2.2.2.2.2.2.2.2.2.1
theorem d_M_want_30 : decode prog_10_method_46_code 30 = .ok (.ireturn, 1) := dd_M_want_0.2.2.2.2.2.2.2.2.2.2.2.2.2.2.2.2.2
def f_M_want_29   (h : mH) : Option (Int32 × mH) :=
  some (((-1) : Int32), h)
set_option maxRecDepth 20000 in
theorem t_M_want_29 {sc : Nat × (Nat → Int32)}   (h : mH) (r : Int32) (h' : mH) (hf : f_M_want_29   h = some (r, h')) : G sc y_M_want prog_10_method_46_code 4 (some .int) 2 46 29 [] [] h (some (.int r)) h' := by
  unfold f_M_want_29 at hf
  refine g_iconst (pc := 29) ((-1) : Int32) d_M_want_29 (by decide) ?_
  obtain ⟨rfl, rfl⟩ := ret2 hf
  exact g_iret (pc := 30) rfl d_M_want_30
def f_M_want_0  (a0 : Nat) (a1 : Int32) (a2 : Int32) (a3 : Int32) (h : mH) : Option (Int32 × mH) :=
  bd1 (kC h a0 8) fun _ =>
  bd2 (f_M_isOne a0 a1 h) fun x5 h3 =>
  if x5 = 0 then
    f_M_want_29  h3
  else
    bd1 (kC h3 a0 8) fun _ =>
    bd2 (f_M_isLaw a0 a2 h3) fun x10 h8 =>
    if x10 = 0 then
      f_M_want_29  h8
    else
      bd1 (kC h8 a0 8) fun _ =>
      bd2 (f_M_becomesBit a0 ((21 : Int32) + a1) a2 a3 h8) fun x15 h13 =>
      some (x15, h13)
set_option maxRecDepth 20000 in
theorem t_M_want_0 {sc : Nat × (Nat → Int32)}  (a0 : Nat) (a1 : Int32) (a2 : Int32) (a3 : Int32) (h : mH) (r : Int32) (h' : mH) (hf : f_M_want_0  a0 a1 a2 a3 h = some (r, h')) : G sc y_M_want prog_10_method_46_code 4 (some .int) 2 46 0 [(0, .ref a0), (1, .int a1), (2, .int a2), (3, .int a3)] [] h (some (.int r)) h' := by
  unfold f_M_want_0 at hf
  refine g_aload_n (pc := 0) 0 d_M_want_0 rfl rfl ?_
  refine g_iload_n (pc := 1) 1 d_M_want_1 rfl rfl ?_
  obtain ⟨u2, e1, hf⟩ := bd1_e hf
  obtain ⟨x5, h3, e4, hf⟩ := bd2_e hf
  refine g_callV (pc := 2) (ci := 8) [.int a1] (site_of si_M_isOne (by decide) (by decide)) wd_1160 wd_1162 wp_49 d_M_want_2 rfl e1 (Nat.le_of_ble_eq_true rfl) (fun z => absurd z (by decide)) (fun z => absurd z (by decide)) (fun z => absurd z (by decide)) (c_M_isOne e4) rfl ?_
  refine g_st [.int x5] rfl ?_
  refine g_ifeq (pc := 5) 29 d_M_want_5 (by decide) (fun c17 => ?_) (fun c17 => ?_)
  · replace hf := (if_pos c17).symm.trans hf
    refine g_lv [] rfl ?_
    exact t_M_want_29  _ _ _  hf
  · replace hf := (if_neg c17).symm.trans hf
    refine g_aload_n (pc := 8) 0 d_M_want_8 rfl rfl ?_
    refine g_iload_n (pc := 9) 2 d_M_want_9 rfl rfl ?_
    obtain ⟨u7, e6, hf⟩ := bd1_e hf
    obtain ⟨x10, h8, e9, hf⟩ := bd2_e hf
    refine g_callV (pc := 10) (ci := 8) [.int a2] (site_of si_M_isLaw (by decide) (by decide)) wd_1136 wd_1138 wp_44 d_M_want_10 rfl e6 (Nat.le_of_ble_eq_true rfl) (fun z => absurd z (by decide)) (fun z => absurd z (by decide)) (fun z => absurd z (by decide)) (c_M_isLaw e9) rfl ?_
    refine g_st [.int x10] rfl ?_
    refine g_ifeq (pc := 13) 29 d_M_want_13 (by decide) (fun c16 => ?_) (fun c16 => ?_)
    · replace hf := (if_pos c16).symm.trans hf
      refine g_lv [] rfl ?_
      exact t_M_want_29  _ _ _  hf
    · replace hf := (if_neg c16).symm.trans hf
      refine g_aload_n (pc := 16) 0 d_M_want_16 rfl rfl ?_
      refine g_bipush (pc := 17) (21 : Int32) d_M_want_17 (by decide) ?_
      refine g_iload_n (pc := 19) 1 d_M_want_19 rfl rfl ?_
      refine g_iadd (pc := 20) d_M_want_20 ?_
      refine g_iload_n (pc := 21) 2 d_M_want_21 rfl rfl ?_
      refine g_iload_n (pc := 22) 3 d_M_want_22 rfl rfl ?_
      obtain ⟨u12, e11, hf⟩ := bd1_e hf
      obtain ⟨x15, h13, e14, hf⟩ := bd2_e hf
      refine g_callV (pc := 23) (ci := 8) [.int ((21 : Int32) + a1), .int a2, .int a3] (site_of si_M_becomesBit (by decide) (by decide)) wd_1204 wd_1206 wp_55 d_M_want_23 rfl e11 (Nat.le_of_ble_eq_true rfl) (fun z => absurd z (by decide)) (fun z => absurd z (by decide)) (fun z => absurd z (by decide)) (c_M_becomesBit e14) rfl ?_
      refine g_st [.int x15] rfl ?_
      refine g_goto (pc := 26) 30 d_M_want_26 (by decide) ?_
      obtain ⟨rfl, rfl⟩ := ret2 hf
      exact g_iret (pc := 30) rfl d_M_want_30
def f_M_want (a0 : Nat) (a1 : Int32) (a2 : Int32) (a3 : Int32) (h : mH) : Option (Int32 × mH) := f_M_want_0 a0 a1 a2 a3 h
theorem c_M_want {sc : Nat × (Nat → Int32)} {a0 : Nat} {a1 : Int32} {a2 : Int32} {a3 : Int32} {h : mH} {r : Int32} {h' : mH} (hf : f_M_want a0 a1 a2 a3 h = some (r, h')) : MM sc y_M_want prog_10_method_46_code 4 (some .int) 2 46 [.ref a0, .int a1, .int a2, .int a3] h (some (.int r)) h' :=
  mm_of_G (by decide) (Nat.le_of_ble_eq_true rfl) (t_M_want_0 _ _ _ _ _ _ _ hf)
/-! M fund (II)I -/
set_option maxRecDepth 100000 in
theorem dd_M_fund_0 : (decode prog_10_method_47_code 0 = .ok (.aload_n 0, 1)) ∧ (decode prog_10_method_47_code 1 = .ok (.iload_n 1, 1)) ∧ (decode prog_10_method_47_code 2 = .ok (.invokevirtual 213, 3)) ∧ (decode prog_10_method_47_code 5 = .ok (.ifCond .eq 27, 3)) ∧ (decode prog_10_method_47_code 8 = .ok (.iload_n 2, 1)) ∧ (decode prog_10_method_47_code 9 = .ok (.i2l, 1)) ∧ (decode prog_10_method_47_code 10 = .ok (.lconst 0, 1)) ∧ (decode prog_10_method_47_code 11 = .ok (.ldc2_w 235, 3)) ∧ (decode prog_10_method_47_code 14 = .ok (.invokestatic 114, 3)) ∧ (decode prog_10_method_47_code 17 = .ok (.ifCond .eq 15, 3)) ∧ (decode prog_10_method_47_code 20 = .ok (.aload_n 0, 1)) ∧ (decode prog_10_method_47_code 21 = .ok (.bipush 15, 2)) ∧ (decode prog_10_method_47_code 23 = .ok (.iload_n 1, 1)) ∧ (decode prog_10_method_47_code 24 = .ok (.iadd, 1)) ∧ (decode prog_10_method_47_code 25 = .ok (.iload_n 2, 1)) ∧ (decode prog_10_method_47_code 26 = .ok (.invokevirtual 226, 3)) ∧ (decode prog_10_method_47_code 29 = .ok (.goto 4, 3)) ∧ (decode prog_10_method_47_code 32 = .ok (.iconst (-1), 1)) ∧ (decode prog_10_method_47_code 33 = .ok (.ireturn, 1)) := by
  have h : List.drop 0 prog_10_method_47_code.data.toList = 0x2a :: _ := rfl
  refine ⟨zq_k_n 42 h rfl (zq_o_42 _), ?_⟩
  replace h := zq_nx1 (q := 1) h rfl
  refine ⟨zq_k_n 27 h rfl (zq_o_27 _), ?_⟩
  replace h := zq_nx1 (q := 2) h rfl
  refine ⟨zq_k_u2 182 (fun z => .invokevirtual z) 213 h rfl (zq_o_182 _) (by decide +kernel), ?_⟩
  replace h := zq_nx3 (q := 5) h rfl
  refine ⟨zq_k_s2 153 (fun z => .ifCond .eq z) 27 h rfl (zq_o_153 _) (by decide +kernel), ?_⟩
  replace h := zq_nx3 (q := 8) h rfl
  refine ⟨zq_k_n 28 h rfl (zq_o_28 _), ?_⟩
  replace h := zq_nx1 (q := 9) h rfl
  refine ⟨zq_k_n 133 h rfl (zq_o_133 _), ?_⟩
  replace h := zq_nx1 (q := 10) h rfl
  refine ⟨zq_k_n 9 h rfl (zq_o_9 _), ?_⟩
  replace h := zq_nx1 (q := 11) h rfl
  refine ⟨zq_k_u2 20 (fun z => .ldc2_w z) 235 h rfl (zq_o_20 _) (by decide +kernel), ?_⟩
  replace h := zq_nx3 (q := 14) h rfl
  refine ⟨zq_k_u2 184 (fun z => .invokestatic z) 114 h rfl (zq_o_184 _) (by decide +kernel), ?_⟩
  replace h := zq_nx3 (q := 17) h rfl
  refine ⟨zq_k_s2 153 (fun z => .ifCond .eq z) 15 h rfl (zq_o_153 _) (by decide +kernel), ?_⟩
  replace h := zq_nx3 (q := 20) h rfl
  refine ⟨zq_k_n 42 h rfl (zq_o_42 _), ?_⟩
  replace h := zq_nx1 (q := 21) h rfl
  refine ⟨zq_k_s1 16 (fun z => .bipush z) 15 h rfl (zq_o_16 _) (by decide +kernel), ?_⟩
  replace h := zq_nx2 (q := 23) h rfl
  refine ⟨zq_k_n 27 h rfl (zq_o_27 _), ?_⟩
  replace h := zq_nx1 (q := 24) h rfl
  refine ⟨zq_k_n 96 h rfl (zq_o_96 _), ?_⟩
  replace h := zq_nx1 (q := 25) h rfl
  refine ⟨zq_k_n 28 h rfl (zq_o_28 _), ?_⟩
  replace h := zq_nx1 (q := 26) h rfl
  refine ⟨zq_k_u2 182 (fun z => .invokevirtual z) 226 h rfl (zq_o_182 _) (by decide +kernel), ?_⟩
  replace h := zq_nx3 (q := 29) h rfl
  refine ⟨zq_k_s2 167 (fun z => .goto z) 4 h rfl (zq_o_167 _) (by decide +kernel), ?_⟩
  replace h := zq_nx3 (q := 32) h rfl
  refine ⟨zq_k_n 2 h rfl (zq_o_2 _), ?_⟩
  replace h := zq_nx1 (q := 33) h rfl
  exact zq_k_n 172 h rfl (zq_o_172 _)
theorem d_M_fund_0 : decode prog_10_method_47_code 0 = .ok (.aload_n 0, 1) := dd_M_fund_0.1
theorem d_M_fund_1 : decode prog_10_method_47_code 1 = .ok (.iload_n 1, 1) := dd_M_fund_0.2.1
theorem d_M_fund_2 : decode prog_10_method_47_code 2 = .ok (.invokevirtual 213, 3) := dd_M_fund_0.2.2.1
theorem d_M_fund_5 : decode prog_10_method_47_code 5 = .ok (.ifCond .eq 27, 3) := dd_M_fund_0.2.2.2.1
theorem d_M_fund_8 : decode prog_10_method_47_code 8 = .ok (.iload_n 2, 1) := dd_M_fund_0.2.2.2.2.1
theorem d_M_fund_9 : decode prog_10_method_47_code 9 = .ok (.i2l, 1) := dd_M_fund_0.2.2.2.2.2.1
theorem d_M_fund_10 : decode prog_10_method_47_code 10 = .ok (.lconst 0, 1) := dd_M_fund_0.2.2.2.2.2.2.1
theorem d_M_fund_11 : decode prog_10_method_47_code 11 = .ok (.ldc2_w 235, 3) := dd_M_fund_0.2.2.2.2.2.2.2.1
theorem d_M_fund_14 : decode prog_10_method_47_code 14 = .ok (.invokestatic 114, 3) := dd_M_fund_0.2.2.2.2.2.2.2.2.1
theorem d_M_fund_17 : decode prog_10_method_47_code 17 = .ok (.ifCond .eq 15, 3) := dd_M_fund_0.2.2.2.2.2.2.2.2.2.1
theorem d_M_fund_20 : decode prog_10_method_47_code 20 = .ok (.aload_n 0, 1) := dd_M_fund_0.2.2.2.2.2.2.2.2.2.2.1
theorem d_M_fund_21 : decode prog_10_method_47_code 21 = .ok (.bipush 15, 2) := dd_M_fund_0.2.2.2.2.2.2.2.2.2.2.2.1
theorem d_M_fund_23 : decode prog_10_method_47_code 23 = .ok (.iload_n 1, 1) := dd_M_fund_0.2.2.2.2.2.2.2.2.2.2.2.2.1
theorem d_M_fund_24 : decode prog_10_method_47_code 24 = .ok (.iadd, 1) := dd_M_fund_0.2.2.2.2.2.2.2.2.2.2.2.2.2.1
theorem d_M_fund_25 : decode prog_10_method_47_code 25 = .ok (.iload_n 2, 1) := dd_M_fund_0.2.2.2.2.2.2.2.2.2.2.2.2.2.2.1
theorem d_M_fund_26 : decode prog_10_method_47_code 26 = .ok (.invokevirtual 226, 3) := dd_M_fund_0.2.2.2.2.2.2.2.2.2.2.2.2.2.2.2.1
theorem d_M_fund_29 : decode prog_10_method_47_code 29 = .ok (.goto 4, 3) := dd_M_fund_0.2.2.2.2.2.2.2.2.2.2.2.2.2.2.2.2.1
theorem d_M_fund_32 : decode prog_10_method_47_code 32 = .ok (.iconst (-1), 1) := dd_M_fund_0.2.2.2.2.2.2.2.2.2.2.2.2.2.2.2.2.2.1
theorem d_M_fund_33 : decode prog_10_method_47_code 33 = .ok (.ireturn, 1) := dd_M_fund_0.2.2.2.2.2.2.2.2.2.2.2.2.2.2.2.2.2.2
def f_M_fund_32   (h : mH) : Option (Int32 × mH) :=
  some (((-1) : Int32), h)
set_option maxRecDepth 20000 in
theorem t_M_fund_32 {sc : Nat × (Nat → Int32)}   (h : mH) (r : Int32) (h' : mH) (hf : f_M_fund_32   h = some (r, h')) : G sc y_M_fund prog_10_method_47_code 3 (some .int) 2 46 32 [] [] h (some (.int r)) h' := by
  unfold f_M_fund_32 at hf
  refine g_iconst (pc := 32) ((-1) : Int32) d_M_fund_32 (by decide) ?_
  obtain ⟨rfl, rfl⟩ := ret2 hf
  exact g_iret (pc := 33) rfl d_M_fund_33
def f_M_fund_0  (a0 : Nat) (a1 : Int32) (a2 : Int32) (h : mH) : Option (Int32 × mH) :=
  bd1 (kC h a0 8) fun _ =>
  bd2 (f_M_isOne a0 a1 h) fun x5 h3 =>
  if x5 = 0 then
    f_M_fund_32  h3
  else
    bd2 (f_M_in a2.toInt64 (0 : Int64) (99 : Int64) h3) fun x8 h6 =>
    if x8 = 0 then
      f_M_fund_32  h6
    else
      bd1 (kC h6 a0 8) fun _ =>
      bd2 (f_M_becomes a0 ((15 : Int32) + a1) a2 h6) fun x13 h11 =>
      some (x13, h11)
set_option maxRecDepth 20000 in
theorem t_M_fund_0 {sc : Nat × (Nat → Int32)}  (a0 : Nat) (a1 : Int32) (a2 : Int32) (h : mH) (r : Int32) (h' : mH) (hf : f_M_fund_0  a0 a1 a2 h = some (r, h')) : G sc y_M_fund prog_10_method_47_code 3 (some .int) 2 46 0 [(0, .ref a0), (1, .int a1), (2, .int a2)] [] h (some (.int r)) h' := by
  unfold f_M_fund_0 at hf
  refine g_aload_n (pc := 0) 0 d_M_fund_0 rfl rfl ?_
  refine g_iload_n (pc := 1) 1 d_M_fund_1 rfl rfl ?_
  obtain ⟨u2, e1, hf⟩ := bd1_e hf
  obtain ⟨x5, h3, e4, hf⟩ := bd2_e hf
  refine g_callV (pc := 2) (ci := 8) [.int a1] (site_of si_M_isOne (by decide) (by decide)) wd_1160 wd_1162 wp_49 d_M_fund_2 rfl e1 (Nat.le_of_ble_eq_true rfl) (fun z => absurd z (by decide)) (fun z => absurd z (by decide)) (fun z => absurd z (by decide)) (c_M_isOne e4) rfl ?_
  refine g_st [.int x5] rfl ?_
  refine g_ifeq (pc := 5) 32 d_M_fund_5 (by decide) (fun c15 => ?_) (fun c15 => ?_)
  · replace hf := (if_pos c15).symm.trans hf
    refine g_lv [] rfl ?_
    exact t_M_fund_32  _ _ _  hf
  · replace hf := (if_neg c15).symm.trans hf
    refine g_iload_n (pc := 8) 2 d_M_fund_8 rfl rfl ?_
    refine g_i2l (pc := 9) d_M_fund_9 ?_
    refine g_lconst (pc := 10) (0 : Int64) d_M_fund_10 (by decide) ?_
    refine g_ldc2 (pc := 11) (99 : Int64) d_M_fund_11 wd_1225 ?_
    obtain ⟨x8, h6, e7, hf⟩ := bd2_e hf
    refine g_callS (pc := 14) [.long a2.toInt64, .long (0 : Int64), .long (99 : Int64)] (site_of si_M_in (by decide) (by decide)) wd_1061 wd_1062 d_M_fund_14 (Nat.le_of_ble_eq_true rfl) (fun z => absurd z (by decide)) (fun z => absurd z (by decide)) (fun z => absurd z (by decide)) (c_M_in e7) rfl ?_
    refine g_st [.int x8] rfl ?_
    refine g_ifeq (pc := 17) 32 d_M_fund_17 (by decide) (fun c14 => ?_) (fun c14 => ?_)
    · replace hf := (if_pos c14).symm.trans hf
      refine g_lv [] rfl ?_
      exact t_M_fund_32  _ _ _  hf
    · replace hf := (if_neg c14).symm.trans hf
      refine g_aload_n (pc := 20) 0 d_M_fund_20 rfl rfl ?_
      refine g_bipush (pc := 21) (15 : Int32) d_M_fund_21 (by decide) ?_
      refine g_iload_n (pc := 23) 1 d_M_fund_23 rfl rfl ?_
      refine g_iadd (pc := 24) d_M_fund_24 ?_
      refine g_iload_n (pc := 25) 2 d_M_fund_25 rfl rfl ?_
      obtain ⟨u10, e9, hf⟩ := bd1_e hf
      obtain ⟨x13, h11, e12, hf⟩ := bd2_e hf
      refine g_callV (pc := 26) (ci := 8) [.int ((15 : Int32) + a1), .int a2] (site_of si_M_becomes (by decide) (by decide)) wd_1192 wd_1194 wp_54 d_M_fund_26 rfl e9 (Nat.le_of_ble_eq_true rfl) (fun z => absurd z (by decide)) (fun z => absurd z (by decide)) (fun z => absurd z (by decide)) (c_M_becomes e12) rfl ?_
      refine g_st [.int x13] rfl ?_
      refine g_goto (pc := 29) 33 d_M_fund_29 (by decide) ?_
      obtain ⟨rfl, rfl⟩ := ret2 hf
      exact g_iret (pc := 33) rfl d_M_fund_33
def f_M_fund (a0 : Nat) (a1 : Int32) (a2 : Int32) (h : mH) : Option (Int32 × mH) := f_M_fund_0 a0 a1 a2 h
theorem c_M_fund {sc : Nat × (Nat → Int32)} {a0 : Nat} {a1 : Int32} {a2 : Int32} {h : mH} {r : Int32} {h' : mH} (hf : f_M_fund a0 a1 a2 h = some (r, h')) : MM sc y_M_fund prog_10_method_47_code 3 (some .int) 2 46 [.ref a0, .int a1, .int a2] h (some (.int r)) h' :=
  mm_of_G (by decide) (Nat.le_of_ble_eq_true rfl) (t_M_fund_0 _ _ _ _ _ _ hf)
/-! M bitsOf (I)I -/
set_option maxRecDepth 100000 in
theorem dd_M_bitsOf_0 : (decode prog_10_method_25_code 0 = .ok (.iconst 0, 1)) ∧ (decode prog_10_method_25_code 1 = .ok (.istore_n 1, 1)) ∧ (decode prog_10_method_25_code 2 = .ok (.iconst 0, 1)) ∧ (decode prog_10_method_25_code 3 = .ok (.istore_n 2, 1)) ∧ (decode prog_10_method_25_code 4 = .ok (.iload_n 2, 1)) ∧ (decode prog_10_method_25_code 5 = .ok (.iconst 5, 1)) ∧ (decode prog_10_method_25_code 6 = .ok (.if_icmp .ge 17, 3)) ∧ (decode prog_10_method_25_code 9 = .ok (.iload_n 1, 1)) ∧ (decode prog_10_method_25_code 10 = .ok (.iload_n 0, 1)) ∧ (decode prog_10_method_25_code 11 = .ok (.iload_n 2, 1)) ∧ (decode prog_10_method_25_code 12 = .ok (.ishr, 1)) ∧ (decode prog_10_method_25_code 13 = .ok (.iconst 1, 1)) ∧ (decode prog_10_method_25_code 14 = .ok (.iand, 1)) ∧ (decode prog_10_method_25_code 15 = .ok (.iadd, 1)) ∧ (decode prog_10_method_25_code 16 = .ok (.istore_n 1, 1)) ∧ (decode prog_10_method_25_code 17 = .ok (.iinc 2 1, 3)) ∧ (decode prog_10_method_25_code 20 = .ok (.goto (-16), 3)) ∧ (decode prog_10_method_25_code 23 = .ok (.iload_n 1, 1)) ∧ (decode prog_10_method_25_code 24 = .ok (.ireturn, 1)) := by
  have h : List.drop 0 prog_10_method_25_code.data.toList = 0x03 :: _ := rfl
  refine ⟨zq_k_n 3 h rfl (zq_o_3 _), ?_⟩
  replace h := zq_nx1 (q := 1) h rfl
  refine ⟨zq_k_n 60 h rfl (zq_o_60 _), ?_⟩
  replace h := zq_nx1 (q := 2) h rfl
  refine ⟨zq_k_n 3 h rfl (zq_o_3 _), ?_⟩
  replace h := zq_nx1 (q := 3) h rfl
  refine ⟨zq_k_n 61 h rfl (zq_o_61 _), ?_⟩
  replace h := zq_nx1 (q := 4) h rfl
  refine ⟨zq_k_n 28 h rfl (zq_o_28 _), ?_⟩
  replace h := zq_nx1 (q := 5) h rfl
  refine ⟨zq_k_n 8 h rfl (zq_o_8 _), ?_⟩
  replace h := zq_nx1 (q := 6) h rfl
  refine ⟨zq_k_s2 162 (fun z => .if_icmp .ge z) 17 h rfl (zq_o_162 _) (by decide +kernel), ?_⟩
  replace h := zq_nx3 (q := 9) h rfl
  refine ⟨zq_k_n 27 h rfl (zq_o_27 _), ?_⟩
  replace h := zq_nx1 (q := 10) h rfl
  refine ⟨zq_k_n 26 h rfl (zq_o_26 _), ?_⟩
  replace h := zq_nx1 (q := 11) h rfl
  refine ⟨zq_k_n 28 h rfl (zq_o_28 _), ?_⟩
  replace h := zq_nx1 (q := 12) h rfl
  refine ⟨zq_k_n 122 h rfl (zq_o_122 _), ?_⟩
  replace h := zq_nx1 (q := 13) h rfl
  refine ⟨zq_k_n 4 h rfl (zq_o_4 _), ?_⟩
  replace h := zq_nx1 (q := 14) h rfl
  refine ⟨zq_k_n 126 h rfl (zq_o_126 _), ?_⟩
  replace h := zq_nx1 (q := 15) h rfl
  refine ⟨zq_k_n 96 h rfl (zq_o_96 _), ?_⟩
  replace h := zq_nx1 (q := 16) h rfl
  refine ⟨zq_k_n 60 h rfl (zq_o_60 _), ?_⟩
  replace h := zq_nx1 (q := 17) h rfl
  refine ⟨zq_k_iinc 2 1 h rfl (zq_o_132 _) (by decide +kernel) (by decide +kernel), ?_⟩
  replace h := zq_nx3 (q := 20) h rfl
  refine ⟨zq_k_s2 167 (fun z => .goto z) (-16) h rfl (zq_o_167 _) (by decide +kernel), ?_⟩
  replace h := zq_nx3 (q := 23) h rfl
  refine ⟨zq_k_n 27 h rfl (zq_o_27 _), ?_⟩
  replace h := zq_nx1 (q := 24) h rfl
  exact zq_k_n 172 h rfl (zq_o_172 _)
theorem d_M_bitsOf_0 : decode prog_10_method_25_code 0 = .ok (.iconst 0, 1) := dd_M_bitsOf_0.1
theorem d_M_bitsOf_1 : decode prog_10_method_25_code 1 = .ok (.istore_n 1, 1) := dd_M_bitsOf_0.2.1
theorem d_M_bitsOf_2 : decode prog_10_method_25_code 2 = .ok (.iconst 0, 1) := dd_M_bitsOf_0.2.2.1
theorem d_M_bitsOf_3 : decode prog_10_method_25_code 3 = .ok (.istore_n 2, 1) := dd_M_bitsOf_0.2.2.2.1
theorem d_M_bitsOf_4 : decode prog_10_method_25_code 4 = .ok (.iload_n 2, 1) := dd_M_bitsOf_0.2.2.2.2.1
theorem d_M_bitsOf_5 : decode prog_10_method_25_code 5 = .ok (.iconst 5, 1) := dd_M_bitsOf_0.2.2.2.2.2.1
theorem d_M_bitsOf_6 : decode prog_10_method_25_code 6 = .ok (.if_icmp .ge 17, 3) := dd_M_bitsOf_0.2.2.2.2.2.2.1
theorem d_M_bitsOf_9 : decode prog_10_method_25_code 9 = .ok (.iload_n 1, 1) := dd_M_bitsOf_0.2.2.2.2.2.2.2.1
theorem d_M_bitsOf_10 : decode prog_10_method_25_code 10 = .ok (.iload_n 0, 1) := dd_M_bitsOf_0.2.2.2.2.2.2.2.2.1
theorem d_M_bitsOf_11 : decode prog_10_method_25_code 11 = .ok (.iload_n 2, 1) := dd_M_bitsOf_0.2.2.2.2.2.2.2.2.2.1
theorem d_M_bitsOf_12 : decode prog_10_method_25_code 12 = .ok (.ishr, 1) := dd_M_bitsOf_0.2.2.2.2.2.2.2.2.2.2.1
theorem d_M_bitsOf_13 : decode prog_10_method_25_code 13 = .ok (.iconst 1, 1) := dd_M_bitsOf_0.2.2.2.2.2.2.2.2.2.2.2.1
theorem d_M_bitsOf_14 : decode prog_10_method_25_code 14 = .ok (.iand, 1) := dd_M_bitsOf_0.2.2.2.2.2.2.2.2.2.2.2.2.1
theorem d_M_bitsOf_15 : decode prog_10_method_25_code 15 = .ok (.iadd, 1) := dd_M_bitsOf_0.2.2.2.2.2.2.2.2.2.2.2.2.2.1
theorem d_M_bitsOf_16 : decode prog_10_method_25_code 16 = .ok (.istore_n 1, 1) := dd_M_bitsOf_0.2.2.2.2.2.2.2.2.2.2.2.2.2.2.1
theorem d_M_bitsOf_17 : decode prog_10_method_25_code 17 = .ok (.iinc 2 1, 3) := dd_M_bitsOf_0.2.2.2.2.2.2.2.2.2.2.2.2.2.2.2.1
theorem d_M_bitsOf_20 : decode prog_10_method_25_code 20 = .ok (.goto (-16), 3) := dd_M_bitsOf_0.2.2.2.2.2.2.2.2.2.2.2.2.2.2.2.2.1
theorem d_M_bitsOf_23 : decode prog_10_method_25_code 23 = .ok (.iload_n 1, 1) := dd_M_bitsOf_0.2.2.2.2.2.2.2.2.2.2.2.2.2.2.2.2.2.1
theorem d_M_bitsOf_24 : decode prog_10_method_25_code 24 = .ok (.ireturn, 1) := dd_M_bitsOf_0.2.2.2.2.2.2.2.2.2.2.2.2.2.2.2.2.2.2
def f_M_bitsOf_4b (rec4 : Int32 → Int32 → Int32 → mH → Option (Int32 × mH)) (b0 : Int32) (b1 : Int32) (b2 : Int32) (h : mH) : Option (Int32 × mH) :=
  if (5 : Int32) ≤ b2 then
    some (b1, h)
  else
    rec4 b0 (b1 + ((b0 >>> (b2 &&& 31)) &&& (1 : Int32))) (b2 + (1 : Int32)) h
set_option maxRecDepth 20000 in
theorem t_M_bitsOf_4b {sc : Nat × (Nat → Int32)} (rec4 : Int32 → Int32 → Int32 → mH → Option (Int32 × mH)) (hrec4 : ∀ (b0 : Int32) (b1 : Int32) (b2 : Int32) (h : mH) (r : Int32) (h' : mH), rec4 b0 b1 b2 h = some (r, h') → G sc y_M_bitsOf prog_10_method_25_code 3 (some .int) 0 0 4 [(0, .int b0), (1, .int b1), (2, .int b2)] [] h (some (.int r)) h') (b0 : Int32) (b1 : Int32) (b2 : Int32) (h : mH) (r : Int32) (h' : mH) (hf : f_M_bitsOf_4b rec4 b0 b1 b2 h = some (r, h')) : G sc y_M_bitsOf prog_10_method_25_code 3 (some .int) 0 0 4 [(0, .int b0), (1, .int b1), (2, .int b2)] [] h (some (.int r)) h' := by
  unfold f_M_bitsOf_4b at hf
  refine g_iload_n (pc := 4) 2 d_M_bitsOf_4 rfl rfl ?_
  refine g_iconst (pc := 5) (5 : Int32) d_M_bitsOf_5 (by decide) ?_
  refine g_icmpge (pc := 6) 23 d_M_bitsOf_6 (by decide) (fun c1 => ?_) (fun c1 => ?_)
  · replace hf := (if_pos c1).symm.trans hf
    refine g_iload_n (pc := 23) 1 d_M_bitsOf_23 rfl rfl ?_
    obtain ⟨rfl, rfl⟩ := ret2 hf
    exact g_iret (pc := 24) rfl d_M_bitsOf_24
  · replace hf := (if_neg c1).symm.trans hf
    refine g_iload_n (pc := 9) 1 d_M_bitsOf_9 rfl rfl ?_
    refine g_iload_n (pc := 10) 0 d_M_bitsOf_10 rfl rfl ?_
    refine g_iload_n (pc := 11) 2 d_M_bitsOf_11 rfl rfl ?_
    refine g_ishr (pc := 12) d_M_bitsOf_12 ?_
    refine g_iconst (pc := 13) (1 : Int32) d_M_bitsOf_13 (by decide) ?_
    refine g_iand (pc := 14) d_M_bitsOf_14 ?_
    refine g_iadd (pc := 15) d_M_bitsOf_15 ?_
    refine g_istore_n (pc := 16) [(1, .int (b1 + ((b0 >>> (b2 &&& 31)) &&& (1 : Int32)))), (0, .int b0), (2, .int b2)] d_M_bitsOf_16 rfl (Nat.le_of_ble_eq_true rfl) rfl ?_
    refine g_iinc (pc := 17) 2 (b2 + (1 : Int32)) [(2, .int (b2 + (1 : Int32))), (1, .int (b1 + ((b0 >>> (b2 &&& 31)) &&& (1 : Int32)))), (0, .int b0)] d_M_bitsOf_17 rfl rfl (Nat.le_of_ble_eq_true rfl) rfl ?_
    refine g_goto (pc := 20) 4 d_M_bitsOf_20 (by decide) ?_
    refine g_lv [2, 1, 0] rfl ?_
    exact hrec4 _ _ _ _ _ _  hf
def f_M_bitsOf_4  : Nat → Int32 → Int32 → Int32 → mH → Option (Int32 × mH)
  | 0 => fun _ _ _ _ => none
  | n + 1 => f_M_bitsOf_4b  (f_M_bitsOf_4  n)
theorem t_M_bitsOf_4 {sc : Nat × (Nat → Int32)}  : ∀ (n : Nat) (b0 : Int32) (b1 : Int32) (b2 : Int32) (h : mH) (r : Int32) (h' : mH) (hf : f_M_bitsOf_4  n b0 b1 b2 h = some (r, h')), G sc y_M_bitsOf prog_10_method_25_code 3 (some .int) 0 0 4 [(0, .int b0), (1, .int b1), (2, .int b2)] [] h (some (.int r)) h'
  | 0, _, _, _, _, _, _, hf => by cases hf
  | n + 1, _, _, _, _, _, _, hf => t_M_bitsOf_4b  (f_M_bitsOf_4  n) (t_M_bitsOf_4  n) _ _ _ _ _ _ hf
def f_M_bitsOf_0  (a0 : Int32) (h : mH) : Option (Int32 × mH) :=
  f_M_bitsOf_4  FU a0 (0 : Int32) (0 : Int32) h
set_option maxRecDepth 20000 in
theorem t_M_bitsOf_0 {sc : Nat × (Nat → Int32)}  (a0 : Int32) (h : mH) (r : Int32) (h' : mH) (hf : f_M_bitsOf_0  a0 h = some (r, h')) : G sc y_M_bitsOf prog_10_method_25_code 3 (some .int) 0 0 0 [(0, .int a0)] [] h (some (.int r)) h' := by
  unfold f_M_bitsOf_0 at hf
  refine g_iconst (pc := 0) (0 : Int32) d_M_bitsOf_0 (by decide) ?_
  refine g_istore_n (pc := 1) [(1, .int (0 : Int32)), (0, .int a0)] d_M_bitsOf_1 rfl (Nat.le_of_ble_eq_true rfl) rfl ?_
  refine g_iconst (pc := 2) (0 : Int32) d_M_bitsOf_2 (by decide) ?_
  refine g_istore_n (pc := 3) [(2, .int (0 : Int32)), (1, .int (0 : Int32)), (0, .int a0)] d_M_bitsOf_3 rfl (Nat.le_of_ble_eq_true rfl) rfl ?_
  refine g_lv [2, 1, 0] rfl ?_
  exact t_M_bitsOf_4  FU _ _ _ _ _ _  hf
def f_M_bitsOf (a0 : Int32) (h : mH) : Option (Int32 × mH) := f_M_bitsOf_0 a0 h
theorem c_M_bitsOf {sc : Nat × (Nat → Int32)} {a0 : Int32} {h : mH} {r : Int32} {h' : mH} (hf : f_M_bitsOf a0 h = some (r, h')) : MM sc y_M_bitsOf prog_10_method_25_code 3 (some .int) 0 0 [.int a0] h (some (.int r)) h' :=
  mm_of_G (by decide) (Nat.le_of_ble_eq_true rfl) (t_M_bitsOf_0 _ _ _ _ hf)
/-! M revive (I)I -/
set_option maxRecDepth 100000 in
theorem dd_M_revive_0 : (decode prog_10_method_48_code 0 = .ok (.aload_n 0, 1)) ∧ (decode prog_10_method_48_code 1 = .ok (.iload_n 1, 1)) ∧ (decode prog_10_method_48_code 2 = .ok (.invokevirtual 210, 3)) ∧ (decode prog_10_method_48_code 5 = .ok (.ifCond .ne 5, 3)) ∧ (decode prog_10_method_48_code 8 = .ok (.iconst (-1), 1)) ∧ (decode prog_10_method_48_code 9 = .ok (.ireturn, 1)) ∧ (decode prog_10_method_48_code 10 = .ok (.aload_n 0, 1)) ∧ (decode prog_10_method_48_code 11 = .ok (.iload_n 1, 1)) ∧ (decode prog_10_method_48_code 12 = .ok (.invokevirtual 191, 3)) ∧ (decode prog_10_method_48_code 15 = .ok (.ifCond .eq 6, 3)) ∧ (decode prog_10_method_48_code 18 = .ok (.bipush (-2), 2)) ∧ (decode prog_10_method_48_code 20 = .ok (.ireturn, 1)) ∧ (decode prog_10_method_48_code 21 = .ok (.aload_n 0, 1)) ∧ (decode prog_10_method_48_code 22 = .ok (.getfield 7, 3)) ∧ (decode prog_10_method_48_code 25 = .ok (.bipush 10, 2)) ∧ (decode prog_10_method_48_code 27 = .ok (.dup2, 1)) ∧ (decode prog_10_method_48_code 28 = .ok (.iaload, 1)) ∧ (decode prog_10_method_48_code 29 = .ok (.iconst 1, 1)) ∧ (decode prog_10_method_48_code 30 = .ok (.iload_n 1, 1)) ∧ (decode prog_10_method_48_code 31 = .ok (.ishl, 1)) ∧ (decode prog_10_method_48_code 32 = .ok (.ior, 1)) ∧ (decode prog_10_method_48_code 33 = .ok (.iastore, 1)) ∧ (decode prog_10_method_48_code 34 = .ok (.aload_n 0, 1)) ∧ (decode prog_10_method_48_code 35 = .ok (.getfield 7, 3)) := by
  have h : List.drop 0 prog_10_method_48_code.data.toList = 0x2a :: _ := rfl
  refine ⟨zq_k_n 42 h rfl (zq_o_42 _), ?_⟩
  replace h := zq_nx1 (q := 1) h rfl
  refine ⟨zq_k_n 27 h rfl (zq_o_27 _), ?_⟩
  replace h := zq_nx1 (q := 2) h rfl
  refine ⟨zq_k_u2 182 (fun z => .invokevirtual z) 210 h rfl (zq_o_182 _) (by decide +kernel), ?_⟩
  replace h := zq_nx3 (q := 5) h rfl
  refine ⟨zq_k_s2 154 (fun z => .ifCond .ne z) 5 h rfl (zq_o_154 _) (by decide +kernel), ?_⟩
  replace h := zq_nx3 (q := 8) h rfl
  refine ⟨zq_k_n 2 h rfl (zq_o_2 _), ?_⟩
  replace h := zq_nx1 (q := 9) h rfl
  refine ⟨zq_k_n 172 h rfl (zq_o_172 _), ?_⟩
  replace h := zq_nx1 (q := 10) h rfl
  refine ⟨zq_k_n 42 h rfl (zq_o_42 _), ?_⟩
  replace h := zq_nx1 (q := 11) h rfl
  refine ⟨zq_k_n 27 h rfl (zq_o_27 _), ?_⟩
  replace h := zq_nx1 (q := 12) h rfl
  refine ⟨zq_k_u2 182 (fun z => .invokevirtual z) 191 h rfl (zq_o_182 _) (by decide +kernel), ?_⟩
  replace h := zq_nx3 (q := 15) h rfl
  refine ⟨zq_k_s2 153 (fun z => .ifCond .eq z) 6 h rfl (zq_o_153 _) (by decide +kernel), ?_⟩
  replace h := zq_nx3 (q := 18) h rfl
  refine ⟨zq_k_s1 16 (fun z => .bipush z) (-2) h rfl (zq_o_16 _) (by decide +kernel), ?_⟩
  replace h := zq_nx2 (q := 20) h rfl
  refine ⟨zq_k_n 172 h rfl (zq_o_172 _), ?_⟩
  replace h := zq_nx1 (q := 21) h rfl
  refine ⟨zq_k_n 42 h rfl (zq_o_42 _), ?_⟩
  replace h := zq_nx1 (q := 22) h rfl
  refine ⟨zq_k_u2 180 (fun z => .getfield z) 7 h rfl (zq_o_180 _) (by decide +kernel), ?_⟩
  replace h := zq_nx3 (q := 25) h rfl
  refine ⟨zq_k_s1 16 (fun z => .bipush z) 10 h rfl (zq_o_16 _) (by decide +kernel), ?_⟩
  replace h := zq_nx2 (q := 27) h rfl
  refine ⟨zq_k_n 92 h rfl (zq_o_92 _), ?_⟩
  replace h := zq_nx1 (q := 28) h rfl
  refine ⟨zq_k_n 46 h rfl (zq_o_46 _), ?_⟩
  replace h := zq_nx1 (q := 29) h rfl
  refine ⟨zq_k_n 4 h rfl (zq_o_4 _), ?_⟩
  replace h := zq_nx1 (q := 30) h rfl
  refine ⟨zq_k_n 27 h rfl (zq_o_27 _), ?_⟩
  replace h := zq_nx1 (q := 31) h rfl
  refine ⟨zq_k_n 120 h rfl (zq_o_120 _), ?_⟩
  replace h := zq_nx1 (q := 32) h rfl
  refine ⟨zq_k_n 128 h rfl (zq_o_128 _), ?_⟩
  replace h := zq_nx1 (q := 33) h rfl
  refine ⟨zq_k_n 79 h rfl (zq_o_79 _), ?_⟩
  replace h := zq_nx1 (q := 34) h rfl
  refine ⟨zq_k_n 42 h rfl (zq_o_42 _), ?_⟩
  replace h := zq_nx1 (q := 35) h rfl
  exact zq_k_u2 180 (fun z => .getfield z) 7 h rfl (zq_o_180 _) (by decide +kernel)
theorem d_M_revive_0 : decode prog_10_method_48_code 0 = .ok (.aload_n 0, 1) := dd_M_revive_0.1
theorem d_M_revive_1 : decode prog_10_method_48_code 1 = .ok (.iload_n 1, 1) := dd_M_revive_0.2.1
theorem d_M_revive_2 : decode prog_10_method_48_code 2 = .ok (.invokevirtual 210, 3) := dd_M_revive_0.2.2.1
theorem d_M_revive_5 : decode prog_10_method_48_code 5 = .ok (.ifCond .ne 5, 3) := dd_M_revive_0.2.2.2.1
theorem d_M_revive_8 : decode prog_10_method_48_code 8 = .ok (.iconst (-1), 1) := dd_M_revive_0.2.2.2.2.1
theorem d_M_revive_9 : decode prog_10_method_48_code 9 = .ok (.ireturn, 1) := dd_M_revive_0.2.2.2.2.2.1
theorem d_M_revive_10 : decode prog_10_method_48_code 10 = .ok (.aload_n 0, 1) := dd_M_revive_0.2.2.2.2.2.2.1
theorem d_M_revive_11 : decode prog_10_method_48_code 11 = .ok (.iload_n 1, 1) := dd_M_revive_0.2.2.2.2.2.2.2.1
theorem d_M_revive_12 : decode prog_10_method_48_code 12 = .ok (.invokevirtual 191, 3) := dd_M_revive_0.2.2.2.2.2.2.2.2.1
theorem d_M_revive_15 : decode prog_10_method_48_code 15 = .ok (.ifCond .eq 6, 3) := dd_M_revive_0.2.2.2.2.2.2.2.2.2.1
theorem d_M_revive_18 : decode prog_10_method_48_code 18 = .ok (.bipush (-2), 2) := dd_M_revive_0.2.2.2.2.2.2.2.2.2.2.1
theorem d_M_revive_20 : decode prog_10_method_48_code 20 = .ok (.ireturn, 1) := dd_M_revive_0.2.2.2.2.2.2.2.2.2.2.2.1
theorem d_M_revive_21 : decode prog_10_method_48_code 21 = .ok (.aload_n 0, 1) := dd_M_revive_0.2.2.2.2.2.2.2.2.2.2.2.2.1
theorem d_M_revive_22 : decode prog_10_method_48_code 22 = .ok (.getfield 7, 3) := dd_M_revive_0.2.2.2.2.2.2.2.2.2.2.2.2.2.1
theorem d_M_revive_25 : decode prog_10_method_48_code 25 = .ok (.bipush 10, 2) := dd_M_revive_0.2.2.2.2.2.2.2.2.2.2.2.2.2.2.1
theorem d_M_revive_27 : decode prog_10_method_48_code 27 = .ok (.dup2, 1) := dd_M_revive_0.2.2.2.2.2.2.2.2.2.2.2.2.2.2.2.1
theorem d_M_revive_28 : decode prog_10_method_48_code 28 = .ok (.iaload, 1) := dd_M_revive_0.2.2.2.2.2.2.2.2.2.2.2.2.2.2.2.2.1
theorem d_M_revive_29 : decode prog_10_method_48_code 29 = .ok (.iconst 1, 1) := dd_M_revive_0.2.2.2.2.2.2.2.2.2.2.2.2.2.2.2.2.2.1
theorem d_M_revive_30 : decode prog_10_method_48_code 30 = .ok (.iload_n 1, 1) := dd_M_revive_0.2.2.2.2.2.2.2.2.2.2.2.2.2.2.2.2.2.2.1
theorem d_M_revive_31 : decode prog_10_method_48_code 31 = .ok (.ishl, 1) := dd_M_revive_0.2.2.2.2.2.2.2.2.2.2.2.2.2.2.2.2.2.2.2.1
theorem d_M_revive_32 : decode prog_10_method_48_code 32 = .ok (.ior, 1) := dd_M_revive_0.2.2.2.2.2.2.2.2.2.2.2.2.2.2.2.2.2.2.2.2.1
theorem d_M_revive_33 : decode prog_10_method_48_code 33 = .ok (.iastore, 1) := dd_M_revive_0.2.2.2.2.2.2.2.2.2.2.2.2.2.2.2.2.2.2.2.2.2.1
theorem d_M_revive_34 : decode prog_10_method_48_code 34 = .ok (.aload_n 0, 1) := dd_M_revive_0.2.2.2.2.2.2.2.2.2.2.2.2.2.2.2.2.2.2.2.2.2.2.1
theorem d_M_revive_35 : decode prog_10_method_48_code 35 = .ok (.getfield 7, 3) := dd_M_revive_0.2.2.2.2.2.2.2.2.2.2.2.2.2.2.2.2.2.2.2.2.2.2.2
set_option maxRecDepth 100000 in
theorem dd_M_revive_38 : (decode prog_10_method_48_code 38 = .ok (.bipush 10, 2)) ∧ (decode prog_10_method_48_code 40 = .ok (.iaload, 1)) ∧ (decode prog_10_method_48_code 41 = .ok (.invokestatic 237, 3)) ∧ (decode prog_10_method_48_code 44 = .ok (.ireturn, 1)) := by
  have h : List.drop 38 prog_10_method_48_code.data.toList = 0x10 :: _ := rfl
  refine ⟨zq_k_s1 16 (fun z => .bipush z) 10 h rfl (zq_o_16 _) (by decide +kernel), ?_⟩
  replace h := zq_nx2 (q := 40) h rfl
  refine ⟨zq_k_n 46 h rfl (zq_o_46 _), ?_⟩
  replace h := zq_nx1 (q := 41) h rfl
  refine ⟨zq_k_u2 184 (fun z => .invokestatic z) 237 h rfl (zq_o_184 _) (by decide +kernel), ?_⟩
  replace h := zq_nx3 (q := 44) h rfl
  exact zq_k_n 172 h rfl (zq_o_172 _)
theorem d_M_revive_38 : decode prog_10_method_48_code 38 = .ok (.bipush 10, 2) := dd_M_revive_38.1
theorem d_M_revive_40 : decode prog_10_method_48_code 40 = .ok (.iaload, 1) := dd_M_revive_38.2.1
theorem d_M_revive_41 : decode prog_10_method_48_code 41 = .ok (.invokestatic 237, 3) := dd_M_revive_38.2.2.1
theorem d_M_revive_44 : decode prog_10_method_48_code 44 = .ok (.ireturn, 1) := dd_M_revive_38.2.2.2
def f_M_revive_0  (a0 : Nat) (a1 : Int32) (h : mH) : Option (Int32 × mH) :=
  bd1 (kC h a0 8) fun _ =>
  bd2 (f_M_isLaw a0 a1 h) fun x5 h3 =>
  if x5 = 0 then
    some (((-1) : Int32), h3)
  else
    bd1 (kC h3 a0 8) fun _ =>
    bd2 (f_M_doesStand a0 a1 h3) fun x10 h8 =>
    if x10 = 0 then
      bd1 (gR h8 a0 8 0) fun x11 =>
      bd1 (aI h8 0 x11 (10 : Int32)) fun x13 =>
      bd1 (sI h8 0 x11 (10 : Int32) (x13 ||| ((1 : Int32) <<< (a1 &&& 31)))) fun h15 =>
      bd1 (gR h15 a0 8 0) fun x17 =>
      bd1 (aI h15 0 x17 (10 : Int32)) fun x19 =>
      bd2 (f_M_bitsOf x19 h15) fun x23 h21 =>
      some (x23, h21)
    else
      some (((-2) : Int32), h8)
set_option maxRecDepth 20000 in
theorem t_M_revive_0 {sc : Nat × (Nat → Int32)}  (a0 : Nat) (a1 : Int32) (h : mH) (r : Int32) (h' : mH) (hf : f_M_revive_0  a0 a1 h = some (r, h')) : G sc y_M_revive prog_10_method_48_code 2 (some .int) 2 46 0 [(0, .ref a0), (1, .int a1)] [] h (some (.int r)) h' := by
  unfold f_M_revive_0 at hf
  refine g_aload_n (pc := 0) 0 d_M_revive_0 rfl rfl ?_
  refine g_iload_n (pc := 1) 1 d_M_revive_1 rfl rfl ?_
  obtain ⟨u2, e1, hf⟩ := bd1_e hf
  obtain ⟨x5, h3, e4, hf⟩ := bd2_e hf
  refine g_callV (pc := 2) (ci := 8) [.int a1] (site_of si_M_isLaw (by decide) (by decide)) wd_1136 wd_1138 wp_44 d_M_revive_2 rfl e1 (Nat.le_of_ble_eq_true rfl) (fun z => absurd z (by decide)) (fun z => absurd z (by decide)) (fun z => absurd z (by decide)) (c_M_isLaw e4) rfl ?_
  refine g_st [.int x5] rfl ?_
  refine g_ifne (pc := 5) 10 d_M_revive_5 (by decide) (fun c25 => ?_) (fun c25 => ?_)
  · replace hf := (if_neg c25).symm.trans hf
    refine g_aload_n (pc := 10) 0 d_M_revive_10 rfl rfl ?_
    refine g_iload_n (pc := 11) 1 d_M_revive_11 rfl rfl ?_
    obtain ⟨u7, e6, hf⟩ := bd1_e hf
    obtain ⟨x10, h8, e9, hf⟩ := bd2_e hf
    refine g_callV (pc := 12) (ci := 8) [.int a1] (site_of si_M_doesStand (by decide) (by decide)) wd_1144 wd_1146 wp_46 d_M_revive_12 rfl e6 (Nat.le_of_ble_eq_true rfl) (fun z => absurd z (by decide)) (fun z => absurd z (by decide)) (fun z => absurd z (by decide)) (c_M_doesStand e9) rfl ?_
    refine g_st [.int x10] rfl ?_
    refine g_ifeq (pc := 15) 21 d_M_revive_15 (by decide) (fun c24 => ?_) (fun c24 => ?_)
    · replace hf := (if_pos c24).symm.trans hf
      refine g_aload_n (pc := 21) 0 d_M_revive_21 rfl rfl ?_
      obtain ⟨x11, e12, hf⟩ := bd1_e hf
      refine g_get (pc := 22) (ci := 8) (kk := 0) d_M_revive_22 rfl in_M (by decide) wd_938 (gR_spec e12) ?_
      refine g_bipush (pc := 25) (10 : Int32) d_M_revive_25 (by decide) ?_
      refine g_dup2 (pc := 27) d_M_revive_27 rfl rfl ?_
      obtain ⟨x13, e14, hf⟩ := bd1_e hf
      refine g_iald (pc := 28) d_M_revive_28 e14 ?_
      refine g_iconst (pc := 29) (1 : Int32) d_M_revive_29 (by decide) ?_
      refine g_iload_n (pc := 30) 1 d_M_revive_30 rfl rfl ?_
      refine g_ishl (pc := 31) d_M_revive_31 ?_
      refine g_ior (pc := 32) d_M_revive_32 ?_
      obtain ⟨h15, e16, hf⟩ := bd1_e hf
      refine g_iast (pc := 33) d_M_revive_33 e16 ?_
      refine g_aload_n (pc := 34) 0 d_M_revive_34 rfl rfl ?_
      obtain ⟨x17, e18, hf⟩ := bd1_e hf
      refine g_get (pc := 35) (ci := 8) (kk := 0) d_M_revive_35 rfl in_M (by decide) wd_938 (gR_spec e18) ?_
      refine g_bipush (pc := 38) (10 : Int32) d_M_revive_38 (by decide) ?_
      obtain ⟨x19, e20, hf⟩ := bd1_e hf
      refine g_iald (pc := 40) d_M_revive_40 e20 ?_
      obtain ⟨x23, h21, e22, hf⟩ := bd2_e hf
      refine g_callS (pc := 41) [.int x19] (site_of si_M_bitsOf (by decide) (by decide)) wd_1230 wd_1231 d_M_revive_41 (Nat.le_of_ble_eq_true rfl) (fun z => absurd z (by decide)) (fun z => absurd z (by decide)) (fun z => absurd z (by decide)) (c_M_bitsOf e22) rfl ?_
      refine g_st [.int x23] rfl ?_
      obtain ⟨rfl, rfl⟩ := ret2 hf
      exact g_iret (pc := 44) rfl d_M_revive_44
    · replace hf := (if_neg c24).symm.trans hf
      refine g_bipush (pc := 18) ((-2) : Int32) d_M_revive_18 (by decide) ?_
      obtain ⟨rfl, rfl⟩ := ret2 hf
      exact g_iret (pc := 20) rfl d_M_revive_20
  · replace hf := (if_pos c25).symm.trans hf
    refine g_iconst (pc := 8) ((-1) : Int32) d_M_revive_8 (by decide) ?_
    obtain ⟨rfl, rfl⟩ := ret2 hf
    exact g_iret (pc := 9) rfl d_M_revive_9
def f_M_revive (a0 : Nat) (a1 : Int32) (h : mH) : Option (Int32 × mH) := f_M_revive_0 a0 a1 h
theorem c_M_revive {sc : Nat × (Nat → Int32)} {a0 : Nat} {a1 : Int32} {h : mH} {r : Int32} {h' : mH} (hf : f_M_revive a0 a1 h = some (r, h')) : MM sc y_M_revive prog_10_method_48_code 2 (some .int) 2 46 [.ref a0, .int a1] h (some (.int r)) h' :=
  mm_of_G (by decide) (Nat.le_of_ble_eq_true rfl) (t_M_revive_0 _ _ _ _ _ hf)
/-! M breaks (II)I -/
set_option maxRecDepth 100000 in
theorem dd_M_breaks_0 : (decode prog_10_method_49_code 0 = .ok (.aload_n 0, 1)) ∧ (decode prog_10_method_49_code 1 = .ok (.iload_n 1, 1)) ∧ (decode prog_10_method_49_code 2 = .ok (.invokevirtual 213, 3)) ∧ (decode prog_10_method_49_code 5 = .ok (.ifCond .eq 11, 3)) ∧ (decode prog_10_method_49_code 8 = .ok (.aload_n 0, 1)) ∧ (decode prog_10_method_49_code 9 = .ok (.iload_n 2, 1)) ∧ (decode prog_10_method_49_code 10 = .ok (.invokevirtual 210, 3)) ∧ (decode prog_10_method_49_code 13 = .ok (.ifCond .ne 5, 3)) ∧ (decode prog_10_method_49_code 16 = .ok (.iconst (-1), 1)) ∧ (decode prog_10_method_49_code 17 = .ok (.ireturn, 1)) ∧ (decode prog_10_method_49_code 18 = .ok (.aload_n 0, 1)) ∧ (decode prog_10_method_49_code 19 = .ok (.getfield 7, 3)) ∧ (decode prog_10_method_49_code 22 = .ok (.bipush 11, 2)) ∧ (decode prog_10_method_49_code 24 = .ok (.iaload, 1)) ∧ (decode prog_10_method_49_code 25 = .ok (.iload_n 2, 1)) ∧ (decode prog_10_method_49_code 26 = .ok (.ishr, 1)) ∧ (decode prog_10_method_49_code 27 = .ok (.iconst 1, 1)) ∧ (decode prog_10_method_49_code 28 = .ok (.iand, 1)) ∧ (decode prog_10_method_49_code 29 = .ok (.iconst 1, 1)) ∧ (decode prog_10_method_49_code 30 = .ok (.if_icmp .ne 12, 3)) ∧ (decode prog_10_method_49_code 33 = .ok (.aload_n 0, 1)) ∧ (decode prog_10_method_49_code 34 = .ok (.getfield 23, 3)) ∧ (decode prog_10_method_49_code 37 = .ok (.iload_n 2, 1)) ∧ (decode prog_10_method_49_code 38 = .ok (.iaload, 1)) := by
  have h : List.drop 0 prog_10_method_49_code.data.toList = 0x2a :: _ := rfl
  refine ⟨zq_k_n 42 h rfl (zq_o_42 _), ?_⟩
  replace h := zq_nx1 (q := 1) h rfl
  refine ⟨zq_k_n 27 h rfl (zq_o_27 _), ?_⟩
  replace h := zq_nx1 (q := 2) h rfl
  refine ⟨zq_k_u2 182 (fun z => .invokevirtual z) 213 h rfl (zq_o_182 _) (by decide +kernel), ?_⟩
  replace h := zq_nx3 (q := 5) h rfl
  refine ⟨zq_k_s2 153 (fun z => .ifCond .eq z) 11 h rfl (zq_o_153 _) (by decide +kernel), ?_⟩
  replace h := zq_nx3 (q := 8) h rfl
  refine ⟨zq_k_n 42 h rfl (zq_o_42 _), ?_⟩
  replace h := zq_nx1 (q := 9) h rfl
  refine ⟨zq_k_n 28 h rfl (zq_o_28 _), ?_⟩
  replace h := zq_nx1 (q := 10) h rfl
  refine ⟨zq_k_u2 182 (fun z => .invokevirtual z) 210 h rfl (zq_o_182 _) (by decide +kernel), ?_⟩
  replace h := zq_nx3 (q := 13) h rfl
  refine ⟨zq_k_s2 154 (fun z => .ifCond .ne z) 5 h rfl (zq_o_154 _) (by decide +kernel), ?_⟩
  replace h := zq_nx3 (q := 16) h rfl
  refine ⟨zq_k_n 2 h rfl (zq_o_2 _), ?_⟩
  replace h := zq_nx1 (q := 17) h rfl
  refine ⟨zq_k_n 172 h rfl (zq_o_172 _), ?_⟩
  replace h := zq_nx1 (q := 18) h rfl
  refine ⟨zq_k_n 42 h rfl (zq_o_42 _), ?_⟩
  replace h := zq_nx1 (q := 19) h rfl
  refine ⟨zq_k_u2 180 (fun z => .getfield z) 7 h rfl (zq_o_180 _) (by decide +kernel), ?_⟩
  replace h := zq_nx3 (q := 22) h rfl
  refine ⟨zq_k_s1 16 (fun z => .bipush z) 11 h rfl (zq_o_16 _) (by decide +kernel), ?_⟩
  replace h := zq_nx2 (q := 24) h rfl
  refine ⟨zq_k_n 46 h rfl (zq_o_46 _), ?_⟩
  replace h := zq_nx1 (q := 25) h rfl
  refine ⟨zq_k_n 28 h rfl (zq_o_28 _), ?_⟩
  replace h := zq_nx1 (q := 26) h rfl
  refine ⟨zq_k_n 122 h rfl (zq_o_122 _), ?_⟩
  replace h := zq_nx1 (q := 27) h rfl
  refine ⟨zq_k_n 4 h rfl (zq_o_4 _), ?_⟩
  replace h := zq_nx1 (q := 28) h rfl
  refine ⟨zq_k_n 126 h rfl (zq_o_126 _), ?_⟩
  replace h := zq_nx1 (q := 29) h rfl
  refine ⟨zq_k_n 4 h rfl (zq_o_4 _), ?_⟩
  replace h := zq_nx1 (q := 30) h rfl
  refine ⟨zq_k_s2 160 (fun z => .if_icmp .ne z) 12 h rfl (zq_o_160 _) (by decide +kernel), ?_⟩
  replace h := zq_nx3 (q := 33) h rfl
  refine ⟨zq_k_n 42 h rfl (zq_o_42 _), ?_⟩
  replace h := zq_nx1 (q := 34) h rfl
  refine ⟨zq_k_u2 180 (fun z => .getfield z) 23 h rfl (zq_o_180 _) (by decide +kernel), ?_⟩
  replace h := zq_nx3 (q := 37) h rfl
  refine ⟨zq_k_n 28 h rfl (zq_o_28 _), ?_⟩
  replace h := zq_nx1 (q := 38) h rfl
  exact zq_k_n 46 h rfl (zq_o_46 _)
theorem d_M_breaks_0 : decode prog_10_method_49_code 0 = .ok (.aload_n 0, 1) := dd_M_breaks_0.1
theorem d_M_breaks_1 : decode prog_10_method_49_code 1 = .ok (.iload_n 1, 1) := dd_M_breaks_0.2.1
theorem d_M_breaks_2 : decode prog_10_method_49_code 2 = .ok (.invokevirtual 213, 3) := dd_M_breaks_0.2.2.1
theorem d_M_breaks_5 : decode prog_10_method_49_code 5 = .ok (.ifCond .eq 11, 3) := dd_M_breaks_0.2.2.2.1
theorem d_M_breaks_8 : decode prog_10_method_49_code 8 = .ok (.aload_n 0, 1) := dd_M_breaks_0.2.2.2.2.1
theorem d_M_breaks_9 : decode prog_10_method_49_code 9 = .ok (.iload_n 2, 1) := dd_M_breaks_0.2.2.2.2.2.1
theorem d_M_breaks_10 : decode prog_10_method_49_code 10 = .ok (.invokevirtual 210, 3) := dd_M_breaks_0.2.2.2.2.2.2.1
theorem d_M_breaks_13 : decode prog_10_method_49_code 13 = .ok (.ifCond .ne 5, 3) := dd_M_breaks_0.2.2.2.2.2.2.2.1
theorem d_M_breaks_16 : decode prog_10_method_49_code 16 = .ok (.iconst (-1), 1) := dd_M_breaks_0.2.2.2.2.2.2.2.2.1
theorem d_M_breaks_17 : decode prog_10_method_49_code 17 = .ok (.ireturn, 1) := dd_M_breaks_0.2.2.2.2.2.2.2.2.2.1
theorem d_M_breaks_18 : decode prog_10_method_49_code 18 = .ok (.aload_n 0, 1) := dd_M_breaks_0.2.2.2.2.2.2.2.2.2.2.1
theorem d_M_breaks_19 : decode prog_10_method_49_code 19 = .ok (.getfield 7, 3) := dd_M_breaks_0.2.2.2.2.2.2.2.2.2.2.2.1
theorem d_M_breaks_22 : decode prog_10_method_49_code 22 = .ok (.bipush 11, 2) := dd_M_breaks_0.2.2.2.2.2.2.2.2.2.2.2.2.1
theorem d_M_breaks_24 : decode prog_10_method_49_code 24 = .ok (.iaload, 1) := dd_M_breaks_0.2.2.2.2.2.2.2.2.2.2.2.2.2.1
theorem d_M_breaks_25 : decode prog_10_method_49_code 25 = .ok (.iload_n 2, 1) := dd_M_breaks_0.2.2.2.2.2.2.2.2.2.2.2.2.2.2.1
theorem d_M_breaks_26 : decode prog_10_method_49_code 26 = .ok (.ishr, 1) := dd_M_breaks_0.2.2.2.2.2.2.2.2.2.2.2.2.2.2.2.1
theorem d_M_breaks_27 : decode prog_10_method_49_code 27 = .ok (.iconst 1, 1) := dd_M_breaks_0.2.2.2.2.2.2.2.2.2.2.2.2.2.2.2.2.1
theorem d_M_breaks_28 : decode prog_10_method_49_code 28 = .ok (.iand, 1) := dd_M_breaks_0.2.2.2.2.2.2.2.2.2.2.2.2.2.2.2.2.2.1
theorem d_M_breaks_29 : decode prog_10_method_49_code 29 = .ok (.iconst 1, 1) := dd_M_breaks_0.2.2.2.2.2.2.2.2.2.2.2.2.2.2.2.2.2.2.1
theorem d_M_breaks_30 : decode prog_10_method_49_code 30 = .ok (.if_icmp .ne 12, 3) := dd_M_breaks_0.2.2.2.2.2.2.2.2.2.2.2.2.2.2.2.2.2.2.2.1
theorem d_M_breaks_33 : decode prog_10_method_49_code 33 = .ok (.aload_n 0, 1) := dd_M_breaks_0.2.2.2.2.2.2.2.2.2.2.2.2.2.2.2.2.2.2.2.2.1
theorem d_M_breaks_34 : decode prog_10_method_49_code 34 = .ok (.getfield 23, 3) := dd_M_breaks_0.2.2.2.2.2.2.2.2.2.2.2.2.2.2.2.2.2.2.2.2.2.1
theorem d_M_breaks_37 : decode prog_10_method_49_code 37 = .ok (.iload_n 2, 1) := dd_M_breaks_0.2.2.2.2.2.2.2.2.2.2.2.2.2.2.2.2.2.2.2.2.2.2.1
theorem d_M_breaks_38 : decode prog_10_method_49_code 38 = .ok (.iaload, 1) := dd_M_breaks_0.2.2.2.2.2.2.2.2.2.2.2.2.2.2.2.2.2.2.2.2.2.2.2
set_option maxRecDepth 100000 in
theorem dd_M_breaks_39 : (decode prog_10_method_49_code 39 = .ok (.goto 4, 3)) ∧ (decode prog_10_method_49_code 42 = .ok (.iconst 0, 1)) ∧ (decode prog_10_method_49_code 43 = .ok (.istore_n 3, 1)) ∧ (decode prog_10_method_49_code 44 = .ok (.aload_n 0, 1)) ∧ (decode prog_10_method_49_code 45 = .ok (.iload_n 1, 1)) ∧ (decode prog_10_method_49_code 46 = .ok (.iload_n 2, 1)) ∧ (decode prog_10_method_49_code 47 = .ok (.invokevirtual 216, 3)) ∧ (decode prog_10_method_49_code 50 = .ok (.ifCond .eq 16, 3)) ∧ (decode prog_10_method_49_code 53 = .ok (.aload_n 0, 1)) ∧ (decode prog_10_method_49_code 54 = .ok (.getfield 7, 3)) ∧ (decode prog_10_method_49_code 57 = .ok (.bipush 15, 2)) ∧ (decode prog_10_method_49_code 59 = .ok (.iload_n 1, 1)) ∧ (decode prog_10_method_49_code 60 = .ok (.iadd, 1)) ∧ (decode prog_10_method_49_code 61 = .ok (.iaload, 1)) ∧ (decode prog_10_method_49_code 62 = .ok (.iload_n 3, 1)) ∧ (decode prog_10_method_49_code 63 = .ok (.if_icmp .ge 6, 3)) ∧ (decode prog_10_method_49_code 66 = .ok (.bipush (-2), 2)) ∧ (decode prog_10_method_49_code 68 = .ok (.ireturn, 1)) ∧ (decode prog_10_method_49_code 69 = .ok (.aload_n 0, 1)) ∧ (decode prog_10_method_49_code 70 = .ok (.getfield 20, 3)) ∧ (decode prog_10_method_49_code 73 = .ok (.iload_n 2, 1)) ∧ (decode prog_10_method_49_code 74 = .ok (.iaload, 1)) ∧ (decode prog_10_method_49_code 75 = .ok (.aload_n 0, 1)) ∧ (decode prog_10_method_49_code 76 = .ok (.getfield 26, 3)) := by
  have h : List.drop 39 prog_10_method_49_code.data.toList = 0xa7 :: _ := rfl
  refine ⟨zq_k_s2 167 (fun z => .goto z) 4 h rfl (zq_o_167 _) (by decide +kernel), ?_⟩
  replace h := zq_nx3 (q := 42) h rfl
  refine ⟨zq_k_n 3 h rfl (zq_o_3 _), ?_⟩
  replace h := zq_nx1 (q := 43) h rfl
  refine ⟨zq_k_n 62 h rfl (zq_o_62 _), ?_⟩
  replace h := zq_nx1 (q := 44) h rfl
  refine ⟨zq_k_n 42 h rfl (zq_o_42 _), ?_⟩
  replace h := zq_nx1 (q := 45) h rfl
  refine ⟨zq_k_n 27 h rfl (zq_o_27 _), ?_⟩
  replace h := zq_nx1 (q := 46) h rfl
  refine ⟨zq_k_n 28 h rfl (zq_o_28 _), ?_⟩
  replace h := zq_nx1 (q := 47) h rfl
  refine ⟨zq_k_u2 182 (fun z => .invokevirtual z) 216 h rfl (zq_o_182 _) (by decide +kernel), ?_⟩
  replace h := zq_nx3 (q := 50) h rfl
  refine ⟨zq_k_s2 153 (fun z => .ifCond .eq z) 16 h rfl (zq_o_153 _) (by decide +kernel), ?_⟩
  replace h := zq_nx3 (q := 53) h rfl
  refine ⟨zq_k_n 42 h rfl (zq_o_42 _), ?_⟩
  replace h := zq_nx1 (q := 54) h rfl
  refine ⟨zq_k_u2 180 (fun z => .getfield z) 7 h rfl (zq_o_180 _) (by decide +kernel), ?_⟩
  replace h := zq_nx3 (q := 57) h rfl
  refine ⟨zq_k_s1 16 (fun z => .bipush z) 15 h rfl (zq_o_16 _) (by decide +kernel), ?_⟩
  replace h := zq_nx2 (q := 59) h rfl
  refine ⟨zq_k_n 27 h rfl (zq_o_27 _), ?_⟩
  replace h := zq_nx1 (q := 60) h rfl
  refine ⟨zq_k_n 96 h rfl (zq_o_96 _), ?_⟩
  replace h := zq_nx1 (q := 61) h rfl
  refine ⟨zq_k_n 46 h rfl (zq_o_46 _), ?_⟩
  replace h := zq_nx1 (q := 62) h rfl
  refine ⟨zq_k_n 29 h rfl (zq_o_29 _), ?_⟩
  replace h := zq_nx1 (q := 63) h rfl
  refine ⟨zq_k_s2 162 (fun z => .if_icmp .ge z) 6 h rfl (zq_o_162 _) (by decide +kernel), ?_⟩
  replace h := zq_nx3 (q := 66) h rfl
  refine ⟨zq_k_s1 16 (fun z => .bipush z) (-2) h rfl (zq_o_16 _) (by decide +kernel), ?_⟩
  replace h := zq_nx2 (q := 68) h rfl
  refine ⟨zq_k_n 172 h rfl (zq_o_172 _), ?_⟩
  replace h := zq_nx1 (q := 69) h rfl
  refine ⟨zq_k_n 42 h rfl (zq_o_42 _), ?_⟩
  replace h := zq_nx1 (q := 70) h rfl
  refine ⟨zq_k_u2 180 (fun z => .getfield z) 20 h rfl (zq_o_180 _) (by decide +kernel), ?_⟩
  replace h := zq_nx3 (q := 73) h rfl
  refine ⟨zq_k_n 28 h rfl (zq_o_28 _), ?_⟩
  replace h := zq_nx1 (q := 74) h rfl
  refine ⟨zq_k_n 46 h rfl (zq_o_46 _), ?_⟩
  replace h := zq_nx1 (q := 75) h rfl
  refine ⟨zq_k_n 42 h rfl (zq_o_42 _), ?_⟩
  replace h := zq_nx1 (q := 76) h rfl
  exact zq_k_u2 180 (fun z => .getfield z) 26 h rfl (zq_o_180 _) (by decide +kernel)
theorem d_M_breaks_39 : decode prog_10_method_49_code 39 = .ok (.goto 4, 3) := dd_M_breaks_39.1
theorem d_M_breaks_42 : decode prog_10_method_49_code 42 = .ok (.iconst 0, 1) := dd_M_breaks_39.2.1
theorem d_M_breaks_43 : decode prog_10_method_49_code 43 = .ok (.istore_n 3, 1) := dd_M_breaks_39.2.2.1
theorem d_M_breaks_44 : decode prog_10_method_49_code 44 = .ok (.aload_n 0, 1) := dd_M_breaks_39.2.2.2.1
theorem d_M_breaks_45 : decode prog_10_method_49_code 45 = .ok (.iload_n 1, 1) := dd_M_breaks_39.2.2.2.2.1
theorem d_M_breaks_46 : decode prog_10_method_49_code 46 = .ok (.iload_n 2, 1) := dd_M_breaks_39.2.2.2.2.2.1
theorem d_M_breaks_47 : decode prog_10_method_49_code 47 = .ok (.invokevirtual 216, 3) := dd_M_breaks_39.2.2.2.2.2.2.1
theorem d_M_breaks_50 : decode prog_10_method_49_code 50 = .ok (.ifCond .eq 16, 3) := dd_M_breaks_39.2.2.2.2.2.2.2.1
theorem d_M_breaks_53 : decode prog_10_method_49_code 53 = .ok (.aload_n 0, 1) := dd_M_breaks_39.2.2.2.2.2.2.2.2.1
theorem d_M_breaks_54 : decode prog_10_method_49_code 54 = .ok (.getfield 7, 3) := dd_M_breaks_39.2.2.2.2.2.2.2.2.2.1
theorem d_M_breaks_57 : decode prog_10_method_49_code 57 = .ok (.bipush 15, 2) := dd_M_breaks_39.2.2.2.2.2.2.2.2.2.2.1
theorem d_M_breaks_59 : decode prog_10_method_49_code 59 = .ok (.iload_n 1, 1) := dd_M_breaks_39.2.2.2.2.2.2.2.2.2.2.2.1
theorem d_M_breaks_60 : decode prog_10_method_49_code 60 = .ok (.iadd, 1) := dd_M_breaks_39.2.2.2.2.2.2.2.2.2.2.2.2.1
theorem d_M_breaks_61 : decode prog_10_method_49_code 61 = .ok (.iaload, 1) := dd_M_breaks_39.2.2.2.2.2.2.2.2.2.2.2.2.2.1
theorem d_M_breaks_62 : decode prog_10_method_49_code 62 = .ok (.iload_n 3, 1) := dd_M_breaks_39.2.2.2.2.2.2.2.2.2.2.2.2.2.2.1
theorem d_M_breaks_63 : decode prog_10_method_49_code 63 = .ok (.if_icmp .ge 6, 3) := dd_M_breaks_39.2.2.2.2.2.2.2.2.2.2.2.2.2.2.2.1
theorem d_M_breaks_66 : decode prog_10_method_49_code 66 = .ok (.bipush (-2), 2) := dd_M_breaks_39.2.2.2.2.2.2.2.2.2.2.2.2.2.2.2.2.1
theorem d_M_breaks_68 : decode prog_10_method_49_code 68 = .ok (.ireturn, 1) := dd_M_breaks_39.2.2.2.2.2.2.2.2.2.2.2.2.2.2.2.2.2.1
theorem d_M_breaks_69 : decode prog_10_method_49_code 69 = .ok (.aload_n 0, 1) := dd_M_breaks_39.2.2.2.2.2.2.2.2.2.2.2.2.2.2.2.2.2.2.1
theorem d_M_breaks_70 : decode prog_10_method_49_code 70 = .ok (.getfield 20, 3) := dd_M_breaks_39.2.2.2.2.2.2.2.2.2.2.2.2.2.2.2.2.2.2.2.1
theorem d_M_breaks_73 : decode prog_10_method_49_code 73 = .ok (.iload_n 2, 1) := dd_M_breaks_39.2.2.2.2.2.2.2.2.2.2.2.2.2.2.2.2.2.2.2.2.1
theorem d_M_breaks_74 : decode prog_10_method_49_code 74 = .ok (.iaload, 1) := dd_M_breaks_39.2.2.2.2.2.2.2.2.2.2.2.2.2.2.2.2.2.2.2.2.2.1
theorem d_M_breaks_75 : decode prog_10_method_49_code 75 = .ok (.aload_n 0, 1) := dd_M_breaks_39.2.2.2.2.2.2.2.2.2.2.2.2.2.2.2.2.2.2.2.2.2.2.1
theorem d_M_breaks_76 : decode prog_10_method_49_code 76 = .ok (.getfield 26, 3) := dd_M_breaks_39.2.2.2.2.2.2.2.2.2.2.2.2.2.2.2.2.2.2.2.2.2.2.2
set_option maxRecDepth 100000 in
theorem dd_M_breaks_79 : (decode prog_10_method_49_code 79 = .ok (.iload_n 1, 1)) ∧ (decode prog_10_method_49_code 80 = .ok (.iaload, 1)) ∧ (decode prog_10_method_49_code 81 = .ok (.iadd, 1)) ∧ (decode prog_10_method_49_code 82 = .ok (.istore 4, 2)) ∧ (decode prog_10_method_49_code 84 = .ok (.aload_n 0, 1)) ∧ (decode prog_10_method_49_code 85 = .ok (.getfield 7, 3)) ∧ (decode prog_10_method_49_code 88 = .ok (.bipush 40, 2)) ∧ (decode prog_10_method_49_code 90 = .ok (.iaload, 1)) ∧ (decode prog_10_method_49_code 91 = .ok (.iload 4, 2)) ∧ (decode prog_10_method_49_code 93 = .ok (.iadd, 1)) ∧ (decode prog_10_method_49_code 94 = .ok (.sipush 9999, 3)) ∧ (decode prog_10_method_49_code 97 = .ok (.if_icmp .le 6, 3)) ∧ (decode prog_10_method_49_code 100 = .ok (.bipush (-3), 2)) ∧ (decode prog_10_method_49_code 102 = .ok (.ireturn, 1)) ∧ (decode prog_10_method_49_code 103 = .ok (.aload_n 0, 1)) ∧ (decode prog_10_method_49_code 104 = .ok (.getfield 7, 3)) ∧ (decode prog_10_method_49_code 107 = .ok (.bipush 40, 2)) ∧ (decode prog_10_method_49_code 109 = .ok (.dup2, 1)) ∧ (decode prog_10_method_49_code 110 = .ok (.iaload, 1)) ∧ (decode prog_10_method_49_code 111 = .ok (.iload 4, 2)) ∧ (decode prog_10_method_49_code 113 = .ok (.iadd, 1)) ∧ (decode prog_10_method_49_code 114 = .ok (.iastore, 1)) ∧ (decode prog_10_method_49_code 115 = .ok (.aload_n 0, 1)) ∧ (decode prog_10_method_49_code 116 = .ok (.getfield 7, 3)) := by
  have h : List.drop 79 prog_10_method_49_code.data.toList = 0x1b :: _ := rfl
  refine ⟨zq_k_n 27 h rfl (zq_o_27 _), ?_⟩
  replace h := zq_nx1 (q := 80) h rfl
  refine ⟨zq_k_n 46 h rfl (zq_o_46 _), ?_⟩
  replace h := zq_nx1 (q := 81) h rfl
  refine ⟨zq_k_n 96 h rfl (zq_o_96 _), ?_⟩
  replace h := zq_nx1 (q := 82) h rfl
  refine ⟨zq_k_u1 54 (fun z => .istore z) 4 h rfl (zq_o_54 _) (by decide +kernel), ?_⟩
  replace h := zq_nx2 (q := 84) h rfl
  refine ⟨zq_k_n 42 h rfl (zq_o_42 _), ?_⟩
  replace h := zq_nx1 (q := 85) h rfl
  refine ⟨zq_k_u2 180 (fun z => .getfield z) 7 h rfl (zq_o_180 _) (by decide +kernel), ?_⟩
  replace h := zq_nx3 (q := 88) h rfl
  refine ⟨zq_k_s1 16 (fun z => .bipush z) 40 h rfl (zq_o_16 _) (by decide +kernel), ?_⟩
  replace h := zq_nx2 (q := 90) h rfl
  refine ⟨zq_k_n 46 h rfl (zq_o_46 _), ?_⟩
  replace h := zq_nx1 (q := 91) h rfl
  refine ⟨zq_k_u1 21 (fun z => .iload z) 4 h rfl (zq_o_21 _) (by decide +kernel), ?_⟩
  replace h := zq_nx2 (q := 93) h rfl
  refine ⟨zq_k_n 96 h rfl (zq_o_96 _), ?_⟩
  replace h := zq_nx1 (q := 94) h rfl
  refine ⟨zq_k_s2 17 (fun z => .sipush z) 9999 h rfl (zq_o_17 _) (by decide +kernel), ?_⟩
  replace h := zq_nx3 (q := 97) h rfl
  refine ⟨zq_k_s2 164 (fun z => .if_icmp .le z) 6 h rfl (zq_o_164 _) (by decide +kernel), ?_⟩
  replace h := zq_nx3 (q := 100) h rfl
  refine ⟨zq_k_s1 16 (fun z => .bipush z) (-3) h rfl (zq_o_16 _) (by decide +kernel), ?_⟩
  replace h := zq_nx2 (q := 102) h rfl
  refine ⟨zq_k_n 172 h rfl (zq_o_172 _), ?_⟩
  replace h := zq_nx1 (q := 103) h rfl
  refine ⟨zq_k_n 42 h rfl (zq_o_42 _), ?_⟩
  replace h := zq_nx1 (q := 104) h rfl
  refine ⟨zq_k_u2 180 (fun z => .getfield z) 7 h rfl (zq_o_180 _) (by decide +kernel), ?_⟩
  replace h := zq_nx3 (q := 107) h rfl
  refine ⟨zq_k_s1 16 (fun z => .bipush z) 40 h rfl (zq_o_16 _) (by decide +kernel), ?_⟩
  replace h := zq_nx2 (q := 109) h rfl
  refine ⟨zq_k_n 92 h rfl (zq_o_92 _), ?_⟩
  replace h := zq_nx1 (q := 110) h rfl
  refine ⟨zq_k_n 46 h rfl (zq_o_46 _), ?_⟩
  replace h := zq_nx1 (q := 111) h rfl
  refine ⟨zq_k_u1 21 (fun z => .iload z) 4 h rfl (zq_o_21 _) (by decide +kernel), ?_⟩
  replace h := zq_nx2 (q := 113) h rfl
  refine ⟨zq_k_n 96 h rfl (zq_o_96 _), ?_⟩
  replace h := zq_nx1 (q := 114) h rfl
  refine ⟨zq_k_n 79 h rfl (zq_o_79 _), ?_⟩
  replace h := zq_nx1 (q := 115) h rfl
  refine ⟨zq_k_n 42 h rfl (zq_o_42 _), ?_⟩
  replace h := zq_nx1 (q := 116) h rfl
  exact zq_k_u2 180 (fun z => .getfield z) 7 h rfl (zq_o_180 _) (by decide +kernel)
theorem d_M_breaks_79 : decode prog_10_method_49_code 79 = .ok (.iload_n 1, 1) := dd_M_breaks_79.1
theorem d_M_breaks_80 : decode prog_10_method_49_code 80 = .ok (.iaload, 1) := dd_M_breaks_79.2.1
theorem d_M_breaks_81 : decode prog_10_method_49_code 81 = .ok (.iadd, 1) := dd_M_breaks_79.2.2.1
theorem d_M_breaks_82 : decode prog_10_method_49_code 82 = .ok (.istore 4, 2) := dd_M_breaks_79.2.2.2.1
theorem d_M_breaks_84 : decode prog_10_method_49_code 84 = .ok (.aload_n 0, 1) := dd_M_breaks_79.2.2.2.2.1
theorem d_M_breaks_85 : decode prog_10_method_49_code 85 = .ok (.getfield 7, 3) := dd_M_breaks_79.2.2.2.2.2.1
theorem d_M_breaks_88 : decode prog_10_method_49_code 88 = .ok (.bipush 40, 2) := dd_M_breaks_79.2.2.2.2.2.2.1
theorem d_M_breaks_90 : decode prog_10_method_49_code 90 = .ok (.iaload, 1) := dd_M_breaks_79.2.2.2.2.2.2.2.1
theorem d_M_breaks_91 : decode prog_10_method_49_code 91 = .ok (.iload 4, 2) := dd_M_breaks_79.2.2.2.2.2.2.2.2.1
theorem d_M_breaks_93 : decode prog_10_method_49_code 93 = .ok (.iadd, 1) := dd_M_breaks_79.2.2.2.2.2.2.2.2.2.1
theorem d_M_breaks_94 : decode prog_10_method_49_code 94 = .ok (.sipush 9999, 3) := dd_M_breaks_79.2.2.2.2.2.2.2.2.2.2.1
theorem d_M_breaks_97 : decode prog_10_method_49_code 97 = .ok (.if_icmp .le 6, 3) := dd_M_breaks_79.2.2.2.2.2.2.2.2.2.2.2.1
theorem d_M_breaks_100 : decode prog_10_method_49_code 100 = .ok (.bipush (-3), 2) := dd_M_breaks_79.2.2.2.2.2.2.2.2.2.2.2.2.1
theorem d_M_breaks_102 : decode prog_10_method_49_code 102 = .ok (.ireturn, 1) := dd_M_breaks_79.2.2.2.2.2.2.2.2.2.2.2.2.2.1
theorem d_M_breaks_103 : decode prog_10_method_49_code 103 = .ok (.aload_n 0, 1) := dd_M_breaks_79.2.2.2.2.2.2.2.2.2.2.2.2.2.2.1
theorem d_M_breaks_104 : decode prog_10_method_49_code 104 = .ok (.getfield 7, 3) := dd_M_breaks_79.2.2.2.2.2.2.2.2.2.2.2.2.2.2.2.1
theorem d_M_breaks_107 : decode prog_10_method_49_code 107 = .ok (.bipush 40, 2) := dd_M_breaks_79.2.2.2.2.2.2.2.2.2.2.2.2.2.2.2.2.1
theorem d_M_breaks_109 : decode prog_10_method_49_code 109 = .ok (.dup2, 1) := dd_M_breaks_79.2.2.2.2.2.2.2.2.2.2.2.2.2.2.2.2.2.1
theorem d_M_breaks_110 : decode prog_10_method_49_code 110 = .ok (.iaload, 1) := dd_M_breaks_79.2.2.2.2.2.2.2.2.2.2.2.2.2.2.2.2.2.2.1
theorem d_M_breaks_111 : decode prog_10_method_49_code 111 = .ok (.iload 4, 2) := dd_M_breaks_79.2.2.2.2.2.2.2.2.2.2.2.2.2.2.2.2.2.2.2.1
theorem d_M_breaks_113 : decode prog_10_method_49_code 113 = .ok (.iadd, 1) := dd_M_breaks_79.2.2.2.2.2.2.2.2.2.2.2.2.2.2.2.2.2.2.2.2.1
theorem d_M_breaks_114 : decode prog_10_method_49_code 114 = .ok (.iastore, 1) := dd_M_breaks_79.2.2.2.2.2.2.2.2.2.2.2.2.2.2.2.2.2.2.2.2.2.1
theorem d_M_breaks_115 : decode prog_10_method_49_code 115 = .ok (.aload_n 0, 1) := dd_M_breaks_79.2.2.2.2.2.2.2.2.2.2.2.2.2.2.2.2.2.2.2.2.2.2.1
theorem d_M_breaks_116 : decode prog_10_method_49_code 116 = .ok (.getfield 7, 3) := dd_M_breaks_79.2.2.2.2.2.2.2.2.2.2.2.2.2.2.2.2.2.2.2.2.2.2.2
set_option maxRecDepth 100000 in
theorem dd_M_breaks_119 : (decode prog_10_method_49_code 119 = .ok (.bipush 15, 2)) ∧ (decode prog_10_method_49_code 121 = .ok (.iload_n 1, 1)) ∧ (decode prog_10_method_49_code 122 = .ok (.iadd, 1)) ∧ (decode prog_10_method_49_code 123 = .ok (.dup2, 1)) ∧ (decode prog_10_method_49_code 124 = .ok (.iaload, 1)) ∧ (decode prog_10_method_49_code 125 = .ok (.iload_n 3, 1)) ∧ (decode prog_10_method_49_code 126 = .ok (.isub, 1)) ∧ (decode prog_10_method_49_code 127 = .ok (.iastore, 1)) ∧ (decode prog_10_method_49_code 128 = .ok (.aload_n 0, 1)) ∧ (decode prog_10_method_49_code 129 = .ok (.getfield 7, 3)) ∧ (decode prog_10_method_49_code 132 = .ok (.bipush 24, 2)) ∧ (decode prog_10_method_49_code 134 = .ok (.iconst 5, 1)) ∧ (decode prog_10_method_49_code 135 = .ok (.iload_n 1, 1)) ∧ (decode prog_10_method_49_code 136 = .ok (.imul, 1)) ∧ (decode prog_10_method_49_code 137 = .ok (.iadd, 1)) ∧ (decode prog_10_method_49_code 138 = .ok (.iload_n 2, 1)) ∧ (decode prog_10_method_49_code 139 = .ok (.iadd, 1)) ∧ (decode prog_10_method_49_code 140 = .ok (.dup2, 1)) ∧ (decode prog_10_method_49_code 141 = .ok (.iaload, 1)) ∧ (decode prog_10_method_49_code 142 = .ok (.iconst 1, 1)) ∧ (decode prog_10_method_49_code 143 = .ok (.iadd, 1)) ∧ (decode prog_10_method_49_code 144 = .ok (.iastore, 1)) ∧ (decode prog_10_method_49_code 145 = .ok (.iload 4, 2)) ∧ (decode prog_10_method_49_code 147 = .ok (.ireturn, 1)) := by
  have h : List.drop 119 prog_10_method_49_code.data.toList = 0x10 :: _ := rfl
  refine ⟨zq_k_s1 16 (fun z => .bipush z) 15 h rfl (zq_o_16 _) (by decide +kernel), ?_⟩
  replace h := zq_nx2 (q := 121) h rfl
  refine ⟨zq_k_n 27 h rfl (zq_o_27 _), ?_⟩
  replace h := zq_nx1 (q := 122) h rfl
  refine ⟨zq_k_n 96 h rfl (zq_o_96 _), ?_⟩
  replace h := zq_nx1 (q := 123) h rfl
  refine ⟨zq_k_n 92 h rfl (zq_o_92 _), ?_⟩
  replace h := zq_nx1 (q := 124) h rfl
  refine ⟨zq_k_n 46 h rfl (zq_o_46 _), ?_⟩
  replace h := zq_nx1 (q := 125) h rfl
  refine ⟨zq_k_n 29 h rfl (zq_o_29 _), ?_⟩
  replace h := zq_nx1 (q := 126) h rfl
  refine ⟨zq_k_n 100 h rfl (zq_o_100 _), ?_⟩
  replace h := zq_nx1 (q := 127) h rfl
  refine ⟨zq_k_n 79 h rfl (zq_o_79 _), ?_⟩
  replace h := zq_nx1 (q := 128) h rfl
  refine ⟨zq_k_n 42 h rfl (zq_o_42 _), ?_⟩
  replace h := zq_nx1 (q := 129) h rfl
  refine ⟨zq_k_u2 180 (fun z => .getfield z) 7 h rfl (zq_o_180 _) (by decide +kernel), ?_⟩
  replace h := zq_nx3 (q := 132) h rfl
  refine ⟨zq_k_s1 16 (fun z => .bipush z) 24 h rfl (zq_o_16 _) (by decide +kernel), ?_⟩
  replace h := zq_nx2 (q := 134) h rfl
  refine ⟨zq_k_n 8 h rfl (zq_o_8 _), ?_⟩
  replace h := zq_nx1 (q := 135) h rfl
  refine ⟨zq_k_n 27 h rfl (zq_o_27 _), ?_⟩
  replace h := zq_nx1 (q := 136) h rfl
  refine ⟨zq_k_n 104 h rfl (zq_o_104 _), ?_⟩
  replace h := zq_nx1 (q := 137) h rfl
  refine ⟨zq_k_n 96 h rfl (zq_o_96 _), ?_⟩
  replace h := zq_nx1 (q := 138) h rfl
  refine ⟨zq_k_n 28 h rfl (zq_o_28 _), ?_⟩
  replace h := zq_nx1 (q := 139) h rfl
  refine ⟨zq_k_n 96 h rfl (zq_o_96 _), ?_⟩
  replace h := zq_nx1 (q := 140) h rfl
  refine ⟨zq_k_n 92 h rfl (zq_o_92 _), ?_⟩
  replace h := zq_nx1 (q := 141) h rfl
  refine ⟨zq_k_n 46 h rfl (zq_o_46 _), ?_⟩
  replace h := zq_nx1 (q := 142) h rfl
  refine ⟨zq_k_n 4 h rfl (zq_o_4 _), ?_⟩
  replace h := zq_nx1 (q := 143) h rfl
  refine ⟨zq_k_n 96 h rfl (zq_o_96 _), ?_⟩
  replace h := zq_nx1 (q := 144) h rfl
  refine ⟨zq_k_n 79 h rfl (zq_o_79 _), ?_⟩
  replace h := zq_nx1 (q := 145) h rfl
  refine ⟨zq_k_u1 21 (fun z => .iload z) 4 h rfl (zq_o_21 _) (by decide +kernel), ?_⟩
  replace h := zq_nx2 (q := 147) h rfl
  exact zq_k_n 172 h rfl (zq_o_172 _)
theorem d_M_breaks_119 : decode prog_10_method_49_code 119 = .ok (.bipush 15, 2) := dd_M_breaks_119.1
theorem d_M_breaks_121 : decode prog_10_method_49_code 121 = .ok (.iload_n 1, 1) := dd_M_breaks_119.2.1
theorem d_M_breaks_122 : decode prog_10_method_49_code 122 = .ok (.iadd, 1) := dd_M_breaks_119.2.2.1
theorem d_M_breaks_123 : decode prog_10_method_49_code 123 = .ok (.dup2, 1) := dd_M_breaks_119.2.2.2.1
theorem d_M_breaks_124 : decode prog_10_method_49_code 124 = .ok (.iaload, 1) := dd_M_breaks_119.2.2.2.2.1
theorem d_M_breaks_125 : decode prog_10_method_49_code 125 = .ok (.iload_n 3, 1) := dd_M_breaks_119.2.2.2.2.2.1
theorem d_M_breaks_126 : decode prog_10_method_49_code 126 = .ok (.isub, 1) := dd_M_breaks_119.2.2.2.2.2.2.1
theorem d_M_breaks_127 : decode prog_10_method_49_code 127 = .ok (.iastore, 1) := dd_M_breaks_119.2.2.2.2.2.2.2.1
theorem d_M_breaks_128 : decode prog_10_method_49_code 128 = .ok (.aload_n 0, 1) := dd_M_breaks_119.2.2.2.2.2.2.2.2.1
theorem d_M_breaks_129 : decode prog_10_method_49_code 129 = .ok (.getfield 7, 3) := dd_M_breaks_119.2.2.2.2.2.2.2.2.2.1
theorem d_M_breaks_132 : decode prog_10_method_49_code 132 = .ok (.bipush 24, 2) := dd_M_breaks_119.2.2.2.2.2.2.2.2.2.2.1
theorem d_M_breaks_134 : decode prog_10_method_49_code 134 = .ok (.iconst 5, 1) := dd_M_breaks_119.2.2.2.2.2.2.2.2.2.2.2.1
theorem d_M_breaks_135 : decode prog_10_method_49_code 135 = .ok (.iload_n 1, 1) := dd_M_breaks_119.2.2.2.2.2.2.2.2.2.2.2.2.1
theorem d_M_breaks_136 : decode prog_10_method_49_code 136 = .ok (.imul, 1) := dd_M_breaks_119.2.2.2.2.2.2.2.2.2.2.2.2.2.1
theorem d_M_breaks_137 : decode prog_10_method_49_code 137 = .ok (.iadd, 1) := dd_M_breaks_119.2.2.2.2.2.2.2.2.2.2.2.2.2.2.1
theorem d_M_breaks_138 : decode prog_10_method_49_code 138 = .ok (.iload_n 2, 1) := dd_M_breaks_119.2.2.2.2.2.2.2.2.2.2.2.2.2.2.2.1
theorem d_M_breaks_139 : decode prog_10_method_49_code 139 = .ok (.iadd, 1) := dd_M_breaks_119.2.2.2.2.2.2.2.2.2.2.2.2.2.2.2.2.1
theorem d_M_breaks_140 : decode prog_10_method_49_code 140 = .ok (.dup2, 1) := dd_M_breaks_119.2.2.2.2.2.2.2.2.2.2.2.2.2.2.2.2.2.1
theorem d_M_breaks_141 : decode prog_10_method_49_code 141 = .ok (.iaload, 1) := dd_M_breaks_119.2.2.2.2.2.2.2.2.2.2.2.2.2.2.2.2.2.2.1
theorem d_M_breaks_142 : decode prog_10_method_49_code 142 = .ok (.iconst 1, 1) := dd_M_breaks_119.2.2.2.2.2.2.2.2.2.2.2.2.2.2.2.2.2.2.2.1
theorem d_M_breaks_143 : decode prog_10_method_49_code 143 = .ok (.iadd, 1) := dd_M_breaks_119.2.2.2.2.2.2.2.2.2.2.2.2.2.2.2.2.2.2.2.2.1
theorem d_M_breaks_144 : decode prog_10_method_49_code 144 = .ok (.iastore, 1) := dd_M_breaks_119.2.2.2.2.2.2.2.2.2.2.2.2.2.2.2.2.2.2.2.2.2.1
theorem d_M_breaks_145 : decode prog_10_method_49_code 145 = .ok (.iload 4, 2) := dd_M_breaks_119.2.2.2.2.2.2.2.2.2.2.2.2.2.2.2.2.2.2.2.2.2.2.1
theorem d_M_breaks_147 : decode prog_10_method_49_code 147 = .ok (.ireturn, 1) := dd_M_breaks_119.2.2.2.2.2.2.2.2.2.2.2.2.2.2.2.2.2.2.2.2.2.2.2
def f_M_breaks_66   (h : mH) : Option (Int32 × mH) :=
  some (((-2) : Int32), h)
set_option maxRecDepth 20000 in
theorem t_M_breaks_66 {sc : Nat × (Nat → Int32)}   (h : mH) (r : Int32) (h' : mH) (hf : f_M_breaks_66   h = some (r, h')) : G sc y_M_breaks prog_10_method_49_code 5 (some .int) 4 89 66 [] [] h (some (.int r)) h' := by
  unfold f_M_breaks_66 at hf
  refine g_bipush (pc := 66) ((-2) : Int32) d_M_breaks_66 (by decide) ?_
  obtain ⟨rfl, rfl⟩ := ret2 hf
  exact g_iret (pc := 68) rfl d_M_breaks_68
def f_M_breaks_43  (b0 : Nat) (b1 : Int32) (b2 : Int32) (s0 : Int32) (h : mH) : Option (Int32 × mH) :=
  bd1 (kC h b0 8) fun _ =>
  bd2 (f_M_canBreak b0 b1 b2 h) fun x26 h24 =>
  if x26 = 0 then
    f_M_breaks_66  h24
  else
    bd1 (gR h24 b0 8 0) fun x27 =>
    bd1 (aI h24 0 x27 ((15 : Int32) + b1)) fun x29 =>
    if s0 ≤ x29 then
      bd1 (gR h24 b0 8 5) fun x31 =>
      bd1 (aI h24 0 x31 b2) fun x33 =>
      bd1 (gR h24 b0 8 7) fun x35 =>
      bd1 (aI h24 0 x35 b1) fun x37 =>
      bd1 (gR h24 b0 8 0) fun x39 =>
      bd1 (aI h24 0 x39 (40 : Int32)) fun x41 =>
      if (x41 + (x33 + x37)) ≤ (9999 : Int32) then
        bd1 (gR h24 b0 8 0) fun x43 =>
        bd1 (aI h24 0 x43 (40 : Int32)) fun x45 =>
        bd1 (sI h24 0 x43 (40 : Int32) (x45 + (x33 + x37))) fun h47 =>
        bd1 (gR h47 b0 8 0) fun x49 =>
        bd1 (aI h47 0 x49 ((15 : Int32) + b1)) fun x51 =>
        bd1 (sI h47 0 x49 ((15 : Int32) + b1) (x51 - s0)) fun h53 =>
        bd1 (gR h53 b0 8 0) fun x55 =>
        bd1 (aI h53 0 x55 (((24 : Int32) + ((5 : Int32) * b1)) + b2)) fun x57 =>
        bd1 (sI h53 0 x55 (((24 : Int32) + ((5 : Int32) * b1)) + b2) (x57 + (1 : Int32))) fun h59 =>
        some (x33 + x37, h59)
      else
        some (((-3) : Int32), h24)
    else
      f_M_breaks_66  h24
set_option maxRecDepth 20000 in
theorem t_M_breaks_43 {sc : Nat × (Nat → Int32)}  (b0 : Nat) (b1 : Int32) (b2 : Int32) (s0 : Int32) (h : mH) (r : Int32) (h' : mH) (hf : f_M_breaks_43  b0 b1 b2 s0 h = some (r, h')) : G sc y_M_breaks prog_10_method_49_code 5 (some .int) 4 89 43 [(0, .ref b0), (1, .int b1), (2, .int b2)] [.int s0] h (some (.int r)) h' := by
  unfold f_M_breaks_43 at hf
  refine g_istore_n (pc := 43) [(3, .int s0), (0, .ref b0), (1, .int b1), (2, .int b2)] d_M_breaks_43 rfl (Nat.le_of_ble_eq_true rfl) rfl ?_
  refine g_aload_n (pc := 44) 1 d_M_breaks_44 rfl rfl ?_
  refine g_iload_n (pc := 45) 2 d_M_breaks_45 rfl rfl ?_
  refine g_iload_n (pc := 46) 3 d_M_breaks_46 rfl rfl ?_
  obtain ⟨u23, e22, hf⟩ := bd1_e hf
  obtain ⟨x26, h24, e25, hf⟩ := bd2_e hf
  refine g_callV (pc := 47) (ci := 8) [.int b1, .int b2] (site_of si_M_canBreak (by decide) (by decide)) wd_1164 wd_1166 wp_50 d_M_breaks_47 rfl e22 (Nat.le_of_ble_eq_true rfl) (fun z => absurd z (by decide)) (fun z => absurd z (by decide)) (fun z => absurd z (by decide)) (c_M_canBreak e25) rfl ?_
  refine g_st [.int x26] rfl ?_
  refine g_ifeq (pc := 50) 66 d_M_breaks_50 (by decide) (fun c63 => ?_) (fun c63 => ?_)
  · replace hf := (if_pos c63).symm.trans hf
    refine g_lv [] rfl ?_
    exact t_M_breaks_66  _ _ _  hf
  · replace hf := (if_neg c63).symm.trans hf
    refine g_aload_n (pc := 53) 1 d_M_breaks_53 rfl rfl ?_
    obtain ⟨x27, e28, hf⟩ := bd1_e hf
    refine g_get (pc := 54) (ci := 8) (kk := 0) d_M_breaks_54 rfl in_M (by decide) wd_938 (gR_spec e28) ?_
    refine g_bipush (pc := 57) (15 : Int32) d_M_breaks_57 (by decide) ?_
    refine g_iload_n (pc := 59) 2 d_M_breaks_59 rfl rfl ?_
    refine g_iadd (pc := 60) d_M_breaks_60 ?_
    obtain ⟨x29, e30, hf⟩ := bd1_e hf
    refine g_iald (pc := 61) d_M_breaks_61 e30 ?_
    refine g_iload_n (pc := 62) 0 d_M_breaks_62 rfl rfl ?_
    refine g_icmpge (pc := 63) 69 d_M_breaks_63 (by decide) (fun c62 => ?_) (fun c62 => ?_)
    · replace hf := (if_pos c62).symm.trans hf
      refine g_aload_n (pc := 69) 1 d_M_breaks_69 rfl rfl ?_
      obtain ⟨x31, e32, hf⟩ := bd1_e hf
      refine g_get (pc := 70) (ci := 8) (kk := 5) d_M_breaks_70 rfl in_M (by decide) wd_943 (gR_spec e32) ?_
      refine g_iload_n (pc := 73) 3 d_M_breaks_73 rfl rfl ?_
      obtain ⟨x33, e34, hf⟩ := bd1_e hf
      refine g_iald (pc := 74) d_M_breaks_74 e34 ?_
      refine g_aload_n (pc := 75) 1 d_M_breaks_75 rfl rfl ?_
      obtain ⟨x35, e36, hf⟩ := bd1_e hf
      refine g_get (pc := 76) (ci := 8) (kk := 7) d_M_breaks_76 rfl in_M (by decide) wd_945 (gR_spec e36) ?_
      refine g_iload_n (pc := 79) 2 d_M_breaks_79 rfl rfl ?_
      obtain ⟨x37, e38, hf⟩ := bd1_e hf
      refine g_iald (pc := 80) d_M_breaks_80 e38 ?_
      refine g_iadd (pc := 81) d_M_breaks_81 ?_
      refine g_istore (pc := 82) [(4, .int (x33 + x37)), (3, .int s0), (0, .ref b0), (1, .int b1), (2, .int b2)] d_M_breaks_82 (Nat.le_of_ble_eq_true rfl) rfl ?_
      refine g_aload_n (pc := 84) 2 d_M_breaks_84 rfl rfl ?_
      obtain ⟨x39, e40, hf⟩ := bd1_e hf
      refine g_get (pc := 85) (ci := 8) (kk := 0) d_M_breaks_85 rfl in_M (by decide) wd_938 (gR_spec e40) ?_
      refine g_bipush (pc := 88) (40 : Int32) d_M_breaks_88 (by decide) ?_
      obtain ⟨x41, e42, hf⟩ := bd1_e hf
      refine g_iald (pc := 90) d_M_breaks_90 e42 ?_
      refine g_iload (pc := 91) 0 d_M_breaks_91 rfl ?_
      refine g_iadd (pc := 93) d_M_breaks_93 ?_
      refine g_sipush (pc := 94) (9999 : Int32) d_M_breaks_94 (by decide) ?_
      refine g_icmple (pc := 97) 103 d_M_breaks_97 (by decide) (fun c61 => ?_) (fun c61 => ?_)
      · replace hf := (if_pos c61).symm.trans hf
        refine g_aload_n (pc := 103) 2 d_M_breaks_103 rfl rfl ?_
        obtain ⟨x43, e44, hf⟩ := bd1_e hf
        refine g_get (pc := 104) (ci := 8) (kk := 0) d_M_breaks_104 rfl in_M (by decide) wd_938 (gR_spec e44) ?_
        refine g_bipush (pc := 107) (40 : Int32) d_M_breaks_107 (by decide) ?_
        refine g_dup2 (pc := 109) d_M_breaks_109 rfl rfl ?_
        obtain ⟨x45, e46, hf⟩ := bd1_e hf
        refine g_iald (pc := 110) d_M_breaks_110 e46 ?_
        refine g_iload (pc := 111) 0 d_M_breaks_111 rfl ?_
        refine g_iadd (pc := 113) d_M_breaks_113 ?_
        obtain ⟨h47, e48, hf⟩ := bd1_e hf
        refine g_iast (pc := 114) d_M_breaks_114 e48 ?_
        refine g_aload_n (pc := 115) 2 d_M_breaks_115 rfl rfl ?_
        obtain ⟨x49, e50, hf⟩ := bd1_e hf
        refine g_get (pc := 116) (ci := 8) (kk := 0) d_M_breaks_116 rfl in_M (by decide) wd_938 (gR_spec e50) ?_
        refine g_bipush (pc := 119) (15 : Int32) d_M_breaks_119 (by decide) ?_
        refine g_iload_n (pc := 121) 3 d_M_breaks_121 rfl rfl ?_
        refine g_iadd (pc := 122) d_M_breaks_122 ?_
        refine g_dup2 (pc := 123) d_M_breaks_123 rfl rfl ?_
        obtain ⟨x51, e52, hf⟩ := bd1_e hf
        refine g_iald (pc := 124) d_M_breaks_124 e52 ?_
        refine g_iload_n (pc := 125) 1 d_M_breaks_125 rfl rfl ?_
        refine g_isub (pc := 126) d_M_breaks_126 ?_
        obtain ⟨h53, e54, hf⟩ := bd1_e hf
        refine g_iast (pc := 127) d_M_breaks_127 e54 ?_
        refine g_aload_n (pc := 128) 2 d_M_breaks_128 rfl rfl ?_
        obtain ⟨x55, e56, hf⟩ := bd1_e hf
        refine g_get (pc := 129) (ci := 8) (kk := 0) d_M_breaks_129 rfl in_M (by decide) wd_938 (gR_spec e56) ?_
        refine g_bipush (pc := 132) (24 : Int32) d_M_breaks_132 (by decide) ?_
        refine g_iconst (pc := 134) (5 : Int32) d_M_breaks_134 (by decide) ?_
        refine g_iload_n (pc := 135) 3 d_M_breaks_135 rfl rfl ?_
        refine g_imul (pc := 136) d_M_breaks_136 ?_
        refine g_iadd (pc := 137) d_M_breaks_137 ?_
        refine g_iload_n (pc := 138) 4 d_M_breaks_138 rfl rfl ?_
        refine g_iadd (pc := 139) d_M_breaks_139 ?_
        refine g_dup2 (pc := 140) d_M_breaks_140 rfl rfl ?_
        obtain ⟨x57, e58, hf⟩ := bd1_e hf
        refine g_iald (pc := 141) d_M_breaks_141 e58 ?_
        refine g_iconst (pc := 142) (1 : Int32) d_M_breaks_142 (by decide) ?_
        refine g_iadd (pc := 143) d_M_breaks_143 ?_
        obtain ⟨h59, e60, hf⟩ := bd1_e hf
        refine g_iast (pc := 144) d_M_breaks_144 e60 ?_
        refine g_iload (pc := 145) 0 d_M_breaks_145 rfl ?_
        obtain ⟨rfl, rfl⟩ := ret2 hf
        exact g_iret (pc := 147) rfl d_M_breaks_147
      · replace hf := (if_neg c61).symm.trans hf
        refine g_bipush (pc := 100) ((-3) : Int32) d_M_breaks_100 (by decide) ?_
        obtain ⟨rfl, rfl⟩ := ret2 hf
        exact g_iret (pc := 102) rfl d_M_breaks_102
    · replace hf := (if_neg c62).symm.trans hf
      refine g_lv [] rfl ?_
      exact t_M_breaks_66  _ _ _  hf
def f_M_breaks_16   (h : mH) : Option (Int32 × mH) :=
  some (((-1) : Int32), h)
set_option maxRecDepth 20000 in
theorem t_M_breaks_16 {sc : Nat × (Nat → Int32)}   (h : mH) (r : Int32) (h' : mH) (hf : f_M_breaks_16   h = some (r, h')) : G sc y_M_breaks prog_10_method_49_code 5 (some .int) 4 89 16 [] [] h (some (.int r)) h' := by
  unfold f_M_breaks_16 at hf
  refine g_iconst (pc := 16) ((-1) : Int32) d_M_breaks_16 (by decide) ?_
  obtain ⟨rfl, rfl⟩ := ret2 hf
  exact g_iret (pc := 17) rfl d_M_breaks_17
def f_M_breaks_0  (a0 : Nat) (a1 : Int32) (a2 : Int32) (h : mH) : Option (Int32 × mH) :=
  bd1 (kC h a0 8) fun _ =>
  bd2 (f_M_isOne a0 a1 h) fun x5 h3 =>
  if x5 = 0 then
    f_M_breaks_16  h3
  else
    bd1 (kC h3 a0 8) fun _ =>
    bd2 (f_M_isLaw a0 a2 h3) fun x10 h8 =>
    if x10 = 0 then
      f_M_breaks_16  h8
    else
      bd1 (gR h8 a0 8 0) fun x11 =>
      bd1 (aI h8 0 x11 (11 : Int32)) fun x13 =>
      if ((x13 >>> (a2 &&& 31)) &&& (1 : Int32)) = (1 : Int32) then
        bd1 (gR h8 a0 8 6) fun x15 =>
        bd1 (aI h8 0 x15 a2) fun x17 =>
        f_M_breaks_43  a0 a1 a2 x17 h8
      else
        f_M_breaks_43  a0 a1 a2 (0 : Int32) h8
set_option maxRecDepth 20000 in
theorem t_M_breaks_0 {sc : Nat × (Nat → Int32)}  (a0 : Nat) (a1 : Int32) (a2 : Int32) (h : mH) (r : Int32) (h' : mH) (hf : f_M_breaks_0  a0 a1 a2 h = some (r, h')) : G sc y_M_breaks prog_10_method_49_code 5 (some .int) 4 89 0 [(0, .ref a0), (1, .int a1), (2, .int a2)] [] h (some (.int r)) h' := by
  unfold f_M_breaks_0 at hf
  refine g_aload_n (pc := 0) 0 d_M_breaks_0 rfl rfl ?_
  refine g_iload_n (pc := 1) 1 d_M_breaks_1 rfl rfl ?_
  obtain ⟨u2, e1, hf⟩ := bd1_e hf
  obtain ⟨x5, h3, e4, hf⟩ := bd2_e hf
  refine g_callV (pc := 2) (ci := 8) [.int a1] (site_of si_M_isOne (by decide) (by decide)) wd_1160 wd_1162 wp_49 d_M_breaks_2 rfl e1 (Nat.le_of_ble_eq_true rfl) (fun z => absurd z (by decide)) (fun z => absurd z (by decide)) (fun z => absurd z (by decide)) (c_M_isOne e4) rfl ?_
  refine g_st [.int x5] rfl ?_
  refine g_ifeq (pc := 5) 16 d_M_breaks_5 (by decide) (fun c21 => ?_) (fun c21 => ?_)
  · replace hf := (if_pos c21).symm.trans hf
    refine g_lv [] rfl ?_
    exact t_M_breaks_16  _ _ _  hf
  · replace hf := (if_neg c21).symm.trans hf
    refine g_aload_n (pc := 8) 0 d_M_breaks_8 rfl rfl ?_
    refine g_iload_n (pc := 9) 2 d_M_breaks_9 rfl rfl ?_
    obtain ⟨u7, e6, hf⟩ := bd1_e hf
    obtain ⟨x10, h8, e9, hf⟩ := bd2_e hf
    refine g_callV (pc := 10) (ci := 8) [.int a2] (site_of si_M_isLaw (by decide) (by decide)) wd_1136 wd_1138 wp_44 d_M_breaks_10 rfl e6 (Nat.le_of_ble_eq_true rfl) (fun z => absurd z (by decide)) (fun z => absurd z (by decide)) (fun z => absurd z (by decide)) (c_M_isLaw e9) rfl ?_
    refine g_st [.int x10] rfl ?_
    refine g_ifne (pc := 13) 18 d_M_breaks_13 (by decide) (fun c20 => ?_) (fun c20 => ?_)
    · replace hf := (if_neg c20).symm.trans hf
      refine g_aload_n (pc := 18) 0 d_M_breaks_18 rfl rfl ?_
      obtain ⟨x11, e12, hf⟩ := bd1_e hf
      refine g_get (pc := 19) (ci := 8) (kk := 0) d_M_breaks_19 rfl in_M (by decide) wd_938 (gR_spec e12) ?_
      refine g_bipush (pc := 22) (11 : Int32) d_M_breaks_22 (by decide) ?_
      obtain ⟨x13, e14, hf⟩ := bd1_e hf
      refine g_iald (pc := 24) d_M_breaks_24 e14 ?_
      refine g_iload_n (pc := 25) 2 d_M_breaks_25 rfl rfl ?_
      refine g_ishr (pc := 26) d_M_breaks_26 ?_
      refine g_iconst (pc := 27) (1 : Int32) d_M_breaks_27 (by decide) ?_
      refine g_iand (pc := 28) d_M_breaks_28 ?_
      refine g_iconst (pc := 29) (1 : Int32) d_M_breaks_29 (by decide) ?_
      refine g_icmpne (pc := 30) 42 d_M_breaks_30 (by decide) (fun c19 => ?_) (fun c19 => ?_)
      · replace hf := (if_neg c19).symm.trans hf
        refine g_iconst (pc := 42) (0 : Int32) d_M_breaks_42 (by decide) ?_
        refine g_lv [0, 1, 2] rfl ?_
        exact t_M_breaks_43  _ _ _ _ _ _ _  hf
      · replace hf := (if_pos c19).symm.trans hf
        refine g_aload_n (pc := 33) 0 d_M_breaks_33 rfl rfl ?_
        obtain ⟨x15, e16, hf⟩ := bd1_e hf
        refine g_get (pc := 34) (ci := 8) (kk := 6) d_M_breaks_34 rfl in_M (by decide) wd_944 (gR_spec e16) ?_
        refine g_iload_n (pc := 37) 2 d_M_breaks_37 rfl rfl ?_
        obtain ⟨x17, e18, hf⟩ := bd1_e hf
        refine g_iald (pc := 38) d_M_breaks_38 e18 ?_
        refine g_goto (pc := 39) 43 d_M_breaks_39 (by decide) ?_
        refine g_lv [0, 1, 2] rfl ?_
        exact t_M_breaks_43  _ _ _ _ _ _ _  hf
    · replace hf := (if_pos c20).symm.trans hf
      refine g_lv [] rfl ?_
      exact t_M_breaks_16  _ _ _  hf
def f_M_breaks (a0 : Nat) (a1 : Int32) (a2 : Int32) (h : mH) : Option (Int32 × mH) := f_M_breaks_0 a0 a1 a2 h
theorem c_M_breaks {sc : Nat × (Nat → Int32)} {a0 : Nat} {a1 : Int32} {a2 : Int32} {h : mH} {r : Int32} {h' : mH} (hf : f_M_breaks a0 a1 a2 h = some (r, h')) : MM sc y_M_breaks prog_10_method_49_code 5 (some .int) 4 89 [.ref a0, .int a1, .int a2] h (some (.int r)) h' :=
  mm_of_G (by decide) (Nat.le_of_ble_eq_true rfl) (t_M_breaks_0 _ _ _ _ _ _ hf)
/-! M fallsNow ()I -/
set_option maxRecDepth 100000 in
theorem dd_M_fallsNow_0 : (decode prog_10_method_34_code 0 = .ok (.iconst 0, 1)) ∧ (decode prog_10_method_34_code 1 = .ok (.istore_n 1, 1)) ∧ (decode prog_10_method_34_code 2 = .ok (.iconst 0, 1)) ∧ (decode prog_10_method_34_code 3 = .ok (.istore_n 2, 1)) ∧ (decode prog_10_method_34_code 4 = .ok (.iload_n 2, 1)) ∧ (decode prog_10_method_34_code 5 = .ok (.aload_n 0, 1)) ∧ (decode prog_10_method_34_code 6 = .ok (.getfield 106, 3)) ∧ (decode prog_10_method_34_code 9 = .ok (.if_icmp .ge 37, 3)) ∧ (decode prog_10_method_34_code 12 = .ok (.iload_n 1, 1)) ∧ (decode prog_10_method_34_code 13 = .ok (.aload_n 0, 1)) ∧ (decode prog_10_method_34_code 14 = .ok (.iload_n 2, 1)) ∧ (decode prog_10_method_34_code 15 = .ok (.invokevirtual 191, 3)) ∧ (decode prog_10_method_34_code 18 = .ok (.ifCond .eq 19, 3)) ∧ (decode prog_10_method_34_code 21 = .ok (.aload_n 0, 1)) ∧ (decode prog_10_method_34_code 22 = .ok (.iload_n 2, 1)) ∧ (decode prog_10_method_34_code 23 = .ok (.invokevirtual 204, 3)) ∧ (decode prog_10_method_34_code 26 = .ok (.ifCond .le 11, 3)) ∧ (decode prog_10_method_34_code 29 = .ok (.aload_n 0, 1)) ∧ (decode prog_10_method_34_code 30 = .ok (.iload_n 2, 1)) ∧ (decode prog_10_method_34_code 31 = .ok (.invokevirtual 207, 3)) ∧ (decode prog_10_method_34_code 34 = .ok (.goto 4, 3)) ∧ (decode prog_10_method_34_code 37 = .ok (.iconst 0, 1)) ∧ (decode prog_10_method_34_code 38 = .ok (.ior, 1)) ∧ (decode prog_10_method_34_code 39 = .ok (.istore_n 1, 1)) := by
  have h : List.drop 0 prog_10_method_34_code.data.toList = 0x03 :: _ := rfl
  refine ⟨zq_k_n 3 h rfl (zq_o_3 _), ?_⟩
  replace h := zq_nx1 (q := 1) h rfl
  refine ⟨zq_k_n 60 h rfl (zq_o_60 _), ?_⟩
  replace h := zq_nx1 (q := 2) h rfl
  refine ⟨zq_k_n 3 h rfl (zq_o_3 _), ?_⟩
  replace h := zq_nx1 (q := 3) h rfl
  refine ⟨zq_k_n 61 h rfl (zq_o_61 _), ?_⟩
  replace h := zq_nx1 (q := 4) h rfl
  refine ⟨zq_k_n 28 h rfl (zq_o_28 _), ?_⟩
  replace h := zq_nx1 (q := 5) h rfl
  refine ⟨zq_k_n 42 h rfl (zq_o_42 _), ?_⟩
  replace h := zq_nx1 (q := 6) h rfl
  refine ⟨zq_k_u2 180 (fun z => .getfield z) 106 h rfl (zq_o_180 _) (by decide +kernel), ?_⟩
  replace h := zq_nx3 (q := 9) h rfl
  refine ⟨zq_k_s2 162 (fun z => .if_icmp .ge z) 37 h rfl (zq_o_162 _) (by decide +kernel), ?_⟩
  replace h := zq_nx3 (q := 12) h rfl
  refine ⟨zq_k_n 27 h rfl (zq_o_27 _), ?_⟩
  replace h := zq_nx1 (q := 13) h rfl
  refine ⟨zq_k_n 42 h rfl (zq_o_42 _), ?_⟩
  replace h := zq_nx1 (q := 14) h rfl
  refine ⟨zq_k_n 28 h rfl (zq_o_28 _), ?_⟩
  replace h := zq_nx1 (q := 15) h rfl
  refine ⟨zq_k_u2 182 (fun z => .invokevirtual z) 191 h rfl (zq_o_182 _) (by decide +kernel), ?_⟩
  replace h := zq_nx3 (q := 18) h rfl
  refine ⟨zq_k_s2 153 (fun z => .ifCond .eq z) 19 h rfl (zq_o_153 _) (by decide +kernel), ?_⟩
  replace h := zq_nx3 (q := 21) h rfl
  refine ⟨zq_k_n 42 h rfl (zq_o_42 _), ?_⟩
  replace h := zq_nx1 (q := 22) h rfl
  refine ⟨zq_k_n 28 h rfl (zq_o_28 _), ?_⟩
  replace h := zq_nx1 (q := 23) h rfl
  refine ⟨zq_k_u2 182 (fun z => .invokevirtual z) 204 h rfl (zq_o_182 _) (by decide +kernel), ?_⟩
  replace h := zq_nx3 (q := 26) h rfl
  refine ⟨zq_k_s2 158 (fun z => .ifCond .le z) 11 h rfl (zq_o_158 _) (by decide +kernel), ?_⟩
  replace h := zq_nx3 (q := 29) h rfl
  refine ⟨zq_k_n 42 h rfl (zq_o_42 _), ?_⟩
  replace h := zq_nx1 (q := 30) h rfl
  refine ⟨zq_k_n 28 h rfl (zq_o_28 _), ?_⟩
  replace h := zq_nx1 (q := 31) h rfl
  refine ⟨zq_k_u2 182 (fun z => .invokevirtual z) 207 h rfl (zq_o_182 _) (by decide +kernel), ?_⟩
  replace h := zq_nx3 (q := 34) h rfl
  refine ⟨zq_k_s2 167 (fun z => .goto z) 4 h rfl (zq_o_167 _) (by decide +kernel), ?_⟩
  replace h := zq_nx3 (q := 37) h rfl
  refine ⟨zq_k_n 3 h rfl (zq_o_3 _), ?_⟩
  replace h := zq_nx1 (q := 38) h rfl
  refine ⟨zq_k_n 128 h rfl (zq_o_128 _), ?_⟩
  replace h := zq_nx1 (q := 39) h rfl
  exact zq_k_n 60 h rfl (zq_o_60 _)
theorem d_M_fallsNow_0 : decode prog_10_method_34_code 0 = .ok (.iconst 0, 1) := dd_M_fallsNow_0.1
theorem d_M_fallsNow_1 : decode prog_10_method_34_code 1 = .ok (.istore_n 1, 1) := dd_M_fallsNow_0.2.1
theorem d_M_fallsNow_2 : decode prog_10_method_34_code 2 = .ok (.iconst 0, 1) := dd_M_fallsNow_0.2.2.1
theorem d_M_fallsNow_3 : decode prog_10_method_34_code 3 = .ok (.istore_n 2, 1) := dd_M_fallsNow_0.2.2.2.1
theorem d_M_fallsNow_4 : decode prog_10_method_34_code 4 = .ok (.iload_n 2, 1) := dd_M_fallsNow_0.2.2.2.2.1
theorem d_M_fallsNow_5 : decode prog_10_method_34_code 5 = .ok (.aload_n 0, 1) := dd_M_fallsNow_0.2.2.2.2.2.1
theorem d_M_fallsNow_6 : decode prog_10_method_34_code 6 = .ok (.getfield 106, 3) := dd_M_fallsNow_0.2.2.2.2.2.2.1
theorem d_M_fallsNow_9 : decode prog_10_method_34_code 9 = .ok (.if_icmp .ge 37, 3) := dd_M_fallsNow_0.2.2.2.2.2.2.2.1
theorem d_M_fallsNow_12 : decode prog_10_method_34_code 12 = .ok (.iload_n 1, 1) := dd_M_fallsNow_0.2.2.2.2.2.2.2.2.1
theorem d_M_fallsNow_13 : decode prog_10_method_34_code 13 = .ok (.aload_n 0, 1) := dd_M_fallsNow_0.2.2.2.2.2.2.2.2.2.1
theorem d_M_fallsNow_14 : decode prog_10_method_34_code 14 = .ok (.iload_n 2, 1) := dd_M_fallsNow_0.2.2.2.2.2.2.2.2.2.2.1
theorem d_M_fallsNow_15 : decode prog_10_method_34_code 15 = .ok (.invokevirtual 191, 3) := dd_M_fallsNow_0.2.2.2.2.2.2.2.2.2.2.2.1
theorem d_M_fallsNow_18 : decode prog_10_method_34_code 18 = .ok (.ifCond .eq 19, 3) := dd_M_fallsNow_0.2.2.2.2.2.2.2.2.2.2.2.2.1
theorem d_M_fallsNow_21 : decode prog_10_method_34_code 21 = .ok (.aload_n 0, 1) := dd_M_fallsNow_0.2.2.2.2.2.2.2.2.2.2.2.2.2.1
theorem d_M_fallsNow_22 : decode prog_10_method_34_code 22 = .ok (.iload_n 2, 1) := dd_M_fallsNow_0.2.2.2.2.2.2.2.2.2.2.2.2.2.2.1
theorem d_M_fallsNow_23 : decode prog_10_method_34_code 23 = .ok (.invokevirtual 204, 3) := dd_M_fallsNow_0.2.2.2.2.2.2.2.2.2.2.2.2.2.2.2.1
theorem d_M_fallsNow_26 : decode prog_10_method_34_code 26 = .ok (.ifCond .le 11, 3) := dd_M_fallsNow_0.2.2.2.2.2.2.2.2.2.2.2.2.2.2.2.2.1
theorem d_M_fallsNow_29 : decode prog_10_method_34_code 29 = .ok (.aload_n 0, 1) := dd_M_fallsNow_0.2.2.2.2.2.2.2.2.2.2.2.2.2.2.2.2.2.1
theorem d_M_fallsNow_30 : decode prog_10_method_34_code 30 = .ok (.iload_n 2, 1) := dd_M_fallsNow_0.2.2.2.2.2.2.2.2.2.2.2.2.2.2.2.2.2.2.1
theorem d_M_fallsNow_31 : decode prog_10_method_34_code 31 = .ok (.invokevirtual 207, 3) := dd_M_fallsNow_0.2.2.2.2.2.2.2.2.2.2.2.2.2.2.2.2.2.2.2.1
theorem d_M_fallsNow_34 : decode prog_10_method_34_code 34 = .ok (.goto 4, 3) := dd_M_fallsNow_0.2.2.2.2.2.2.2.2.2.2.2.2.2.2.2.2.2.2.2.2.1
theorem d_M_fallsNow_37 : decode prog_10_method_34_code 37 = .ok (.iconst 0, 1) := dd_M_fallsNow_0.2.2.2.2.2.2.2.2.2.2.2.2.2.2.2.2.2.2.2.2.2.1
theorem d_M_fallsNow_38 : decode prog_10_method_34_code 38 = .ok (.ior, 1) := dd_M_fallsNow_0.2.2.2.2.2.2.2.2.2.2.2.2.2.2.2.2.2.2.2.2.2.2.1
theorem d_M_fallsNow_39 : decode prog_10_method_34_code 39 = .ok (.istore_n 1, 1) := dd_M_fallsNow_0.2.2.2.2.2.2.2.2.2.2.2.2.2.2.2.2.2.2.2.2.2.2.2
set_option maxRecDepth 100000 in
theorem dd_M_fallsNow_40 : (decode prog_10_method_34_code 40 = .ok (.iinc 2 1, 3)) ∧ (decode prog_10_method_34_code 43 = .ok (.goto (-39), 3)) ∧ (decode prog_10_method_34_code 46 = .ok (.iload_n 1, 1)) ∧ (decode prog_10_method_34_code 47 = .ok (.aload_n 0, 1)) ∧ (decode prog_10_method_34_code 48 = .ok (.getfield 7, 3)) ∧ (decode prog_10_method_34_code 51 = .ok (.bipush 10, 2)) ∧ (decode prog_10_method_34_code 53 = .ok (.iaload, 1)) ∧ (decode prog_10_method_34_code 54 = .ok (.iand, 1)) ∧ (decode prog_10_method_34_code 55 = .ok (.ireturn, 1)) := by
  have h : List.drop 40 prog_10_method_34_code.data.toList = 0x84 :: _ := rfl
  refine ⟨zq_k_iinc 2 1 h rfl (zq_o_132 _) (by decide +kernel) (by decide +kernel), ?_⟩
  replace h := zq_nx3 (q := 43) h rfl
  refine ⟨zq_k_s2 167 (fun z => .goto z) (-39) h rfl (zq_o_167 _) (by decide +kernel), ?_⟩
  replace h := zq_nx3 (q := 46) h rfl
  refine ⟨zq_k_n 27 h rfl (zq_o_27 _), ?_⟩
  replace h := zq_nx1 (q := 47) h rfl
  refine ⟨zq_k_n 42 h rfl (zq_o_42 _), ?_⟩
  replace h := zq_nx1 (q := 48) h rfl
  refine ⟨zq_k_u2 180 (fun z => .getfield z) 7 h rfl (zq_o_180 _) (by decide +kernel), ?_⟩
  replace h := zq_nx3 (q := 51) h rfl
  refine ⟨zq_k_s1 16 (fun z => .bipush z) 10 h rfl (zq_o_16 _) (by decide +kernel), ?_⟩
  replace h := zq_nx2 (q := 53) h rfl
  refine ⟨zq_k_n 46 h rfl (zq_o_46 _), ?_⟩
  replace h := zq_nx1 (q := 54) h rfl
  refine ⟨zq_k_n 126 h rfl (zq_o_126 _), ?_⟩
  replace h := zq_nx1 (q := 55) h rfl
  exact zq_k_n 172 h rfl (zq_o_172 _)
theorem d_M_fallsNow_40 : decode prog_10_method_34_code 40 = .ok (.iinc 2 1, 3) := dd_M_fallsNow_40.1
theorem d_M_fallsNow_43 : decode prog_10_method_34_code 43 = .ok (.goto (-39), 3) := dd_M_fallsNow_40.2.1
theorem d_M_fallsNow_46 : decode prog_10_method_34_code 46 = .ok (.iload_n 1, 1) := dd_M_fallsNow_40.2.2.1
theorem d_M_fallsNow_47 : decode prog_10_method_34_code 47 = .ok (.aload_n 0, 1) := dd_M_fallsNow_40.2.2.2.1
theorem d_M_fallsNow_48 : decode prog_10_method_34_code 48 = .ok (.getfield 7, 3) := dd_M_fallsNow_40.2.2.2.2.1
theorem d_M_fallsNow_51 : decode prog_10_method_34_code 51 = .ok (.bipush 10, 2) := dd_M_fallsNow_40.2.2.2.2.2.1
theorem d_M_fallsNow_53 : decode prog_10_method_34_code 53 = .ok (.iaload, 1) := dd_M_fallsNow_40.2.2.2.2.2.2.1
theorem d_M_fallsNow_54 : decode prog_10_method_34_code 54 = .ok (.iand, 1) := dd_M_fallsNow_40.2.2.2.2.2.2.2.1
theorem d_M_fallsNow_55 : decode prog_10_method_34_code 55 = .ok (.ireturn, 1) := dd_M_fallsNow_40.2.2.2.2.2.2.2.2
def f_M_fallsNow_38 (rec4 : Nat → Int32 → Int32 → mH → Option (Int32 × mH)) (b0 : Nat) (b2 : Int32) (s0 : Int32) (s1 : Int32) (h : mH) : Option (Int32 × mH) :=
  rec4 b0 (s0 ||| s1) (b2 + (1 : Int32)) h
set_option maxRecDepth 20000 in
theorem t_M_fallsNow_38 {sc : Nat × (Nat → Int32)} (rec4 : Nat → Int32 → Int32 → mH → Option (Int32 × mH)) (hrec4 : ∀ (b0 : Nat) (b1 : Int32) (b2 : Int32) (h : mH) (r : Int32) (h' : mH), rec4 b0 b1 b2 h = some (r, h') → G sc y_M_fallsNow prog_10_method_34_code 3 (some .int) 2 45 4 [(0, .ref b0), (1, .int b1), (2, .int b2)] [] h (some (.int r)) h') (b0 : Nat) (b2 : Int32) (s0 : Int32) (s1 : Int32) (h : mH) (r : Int32) (h' : mH) (hf : f_M_fallsNow_38 rec4 b0 b2 s0 s1 h = some (r, h')) : G sc y_M_fallsNow prog_10_method_34_code 3 (some .int) 2 45 38 [(0, .ref b0), (2, .int b2)] [.int s1, .int s0] h (some (.int r)) h' := by
  unfold f_M_fallsNow_38 at hf
  refine g_ior (pc := 38) d_M_fallsNow_38 ?_
  refine g_istore_n (pc := 39) [(1, .int (s0 ||| s1)), (0, .ref b0), (2, .int b2)] d_M_fallsNow_39 rfl (Nat.le_of_ble_eq_true rfl) rfl ?_
  refine g_iinc (pc := 40) 2 (b2 + (1 : Int32)) [(2, .int (b2 + (1 : Int32))), (1, .int (s0 ||| s1)), (0, .ref b0)] d_M_fallsNow_40 rfl rfl (Nat.le_of_ble_eq_true rfl) rfl ?_
  refine g_goto (pc := 43) 4 d_M_fallsNow_43 (by decide) ?_
  refine g_lv [2, 1, 0] rfl ?_
  exact hrec4 _ _ _ _ _ _  hf
def f_M_fallsNow_37 (rec4 : Nat → Int32 → Int32 → mH → Option (Int32 × mH)) (b0 : Nat) (b2 : Int32) (s0 : Int32) (h : mH) : Option (Int32 × mH) :=
  f_M_fallsNow_38 rec4 b0 b2 s0 (0 : Int32) h
set_option maxRecDepth 20000 in
theorem t_M_fallsNow_37 {sc : Nat × (Nat → Int32)} (rec4 : Nat → Int32 → Int32 → mH → Option (Int32 × mH)) (hrec4 : ∀ (b0 : Nat) (b1 : Int32) (b2 : Int32) (h : mH) (r : Int32) (h' : mH), rec4 b0 b1 b2 h = some (r, h') → G sc y_M_fallsNow prog_10_method_34_code 3 (some .int) 2 45 4 [(0, .ref b0), (1, .int b1), (2, .int b2)] [] h (some (.int r)) h') (b0 : Nat) (b2 : Int32) (s0 : Int32) (h : mH) (r : Int32) (h' : mH) (hf : f_M_fallsNow_37 rec4 b0 b2 s0 h = some (r, h')) : G sc y_M_fallsNow prog_10_method_34_code 3 (some .int) 2 45 37 [(0, .ref b0), (2, .int b2)] [.int s0] h (some (.int r)) h' := by
  unfold f_M_fallsNow_37 at hf
  refine g_iconst (pc := 37) (0 : Int32) d_M_fallsNow_37 (by decide) ?_
  refine g_lv [0, 1] rfl ?_
  exact t_M_fallsNow_38 rec4 hrec4 _ _ _ _ _ _ _  hf
def f_M_fallsNow_4b (rec4 : Nat → Int32 → Int32 → mH → Option (Int32 × mH)) (b0 : Nat) (b1 : Int32) (b2 : Int32) (h : mH) : Option (Int32 × mH) :=
  bd1 (gI h b0 8 2) fun x1 =>
  if x1 ≤ b2 then
    bd1 (gR h b0 8 0) fun x3 =>
    bd1 (aI h 0 x3 (10 : Int32)) fun x5 =>
    some (b1 &&& x5, h)
  else
    bd1 (kC h b0 8) fun _ =>
    bd2 (f_M_doesStand b0 b2 h) fun x11 h9 =>
    if x11 = 0 then
      f_M_fallsNow_37 rec4 b0 b2 b1 h9
    else
      bd1 (kC h9 b0 8) fun _ =>
      bd2 (f_M_needOf b0 b2 h9) fun x16 h14 =>
      if x16 ≤ 0 then
        f_M_fallsNow_37 rec4 b0 b2 b1 h14
      else
        bd1 (kC h14 b0 8) fun _ =>
        bd2 (f_M_chainOf b0 b2 h14) fun x21 h19 =>
        f_M_fallsNow_38 rec4 b0 b2 b1 x21 h19
set_option maxRecDepth 20000 in
theorem t_M_fallsNow_4b {sc : Nat × (Nat → Int32)} (rec4 : Nat → Int32 → Int32 → mH → Option (Int32 × mH)) (hrec4 : ∀ (b0 : Nat) (b1 : Int32) (b2 : Int32) (h : mH) (r : Int32) (h' : mH), rec4 b0 b1 b2 h = some (r, h') → G sc y_M_fallsNow prog_10_method_34_code 3 (some .int) 2 45 4 [(0, .ref b0), (1, .int b1), (2, .int b2)] [] h (some (.int r)) h') (b0 : Nat) (b1 : Int32) (b2 : Int32) (h : mH) (r : Int32) (h' : mH) (hf : f_M_fallsNow_4b rec4 b0 b1 b2 h = some (r, h')) : G sc y_M_fallsNow prog_10_method_34_code 3 (some .int) 2 45 4 [(0, .ref b0), (1, .int b1), (2, .int b2)] [] h (some (.int r)) h' := by
  unfold f_M_fallsNow_4b at hf
  refine g_iload_n (pc := 4) 2 d_M_fallsNow_4 rfl rfl ?_
  refine g_aload_n (pc := 5) 0 d_M_fallsNow_5 rfl rfl ?_
  obtain ⟨x1, e2, hf⟩ := bd1_e hf
  refine g_get (pc := 6) (ci := 8) (kk := 2) d_M_fallsNow_6 rfl in_M (by decide) wd_940 (gI_spec e2) ?_
  refine g_icmpge (pc := 9) 46 d_M_fallsNow_9 (by decide) (fun c24 => ?_) (fun c24 => ?_)
  · replace hf := (if_pos c24).symm.trans hf
    refine g_iload_n (pc := 46) 1 d_M_fallsNow_46 rfl rfl ?_
    refine g_aload_n (pc := 47) 0 d_M_fallsNow_47 rfl rfl ?_
    obtain ⟨x3, e4, hf⟩ := bd1_e hf
    refine g_get (pc := 48) (ci := 8) (kk := 0) d_M_fallsNow_48 rfl in_M (by decide) wd_938 (gR_spec e4) ?_
    refine g_bipush (pc := 51) (10 : Int32) d_M_fallsNow_51 (by decide) ?_
    obtain ⟨x5, e6, hf⟩ := bd1_e hf
    refine g_iald (pc := 53) d_M_fallsNow_53 e6 ?_
    refine g_iand (pc := 54) d_M_fallsNow_54 ?_
    obtain ⟨rfl, rfl⟩ := ret2 hf
    exact g_iret (pc := 55) rfl d_M_fallsNow_55
  · replace hf := (if_neg c24).symm.trans hf
    refine g_iload_n (pc := 12) 1 d_M_fallsNow_12 rfl rfl ?_
    refine g_aload_n (pc := 13) 0 d_M_fallsNow_13 rfl rfl ?_
    refine g_iload_n (pc := 14) 2 d_M_fallsNow_14 rfl rfl ?_
    obtain ⟨u8, e7, hf⟩ := bd1_e hf
    obtain ⟨x11, h9, e10, hf⟩ := bd2_e hf
    refine g_callV (pc := 15) (ci := 8) [.int b2] (site_of si_M_doesStand (by decide) (by decide)) wd_1144 wd_1146 wp_46 d_M_fallsNow_15 rfl e7 (Nat.le_of_ble_eq_true rfl) (fun z => absurd z (by decide)) (fun z => absurd z (by decide)) (fun z => absurd z (by decide)) (c_M_doesStand e10) rfl ?_
    refine g_st [.int x11, .int b1] rfl ?_
    refine g_ifeq (pc := 18) 37 d_M_fallsNow_18 (by decide) (fun c23 => ?_) (fun c23 => ?_)
    · replace hf := (if_pos c23).symm.trans hf
      refine g_lv [0, 2] rfl ?_
      exact t_M_fallsNow_37 rec4 hrec4 _ _ _ _ _ _  hf
    · replace hf := (if_neg c23).symm.trans hf
      refine g_aload_n (pc := 21) 0 d_M_fallsNow_21 rfl rfl ?_
      refine g_iload_n (pc := 22) 2 d_M_fallsNow_22 rfl rfl ?_
      obtain ⟨u13, e12, hf⟩ := bd1_e hf
      obtain ⟨x16, h14, e15, hf⟩ := bd2_e hf
      refine g_callV (pc := 23) (ci := 8) [.int b2] (site_of si_M_needOf (by decide) (by decide)) wd_1140 wd_1142 wp_45 d_M_fallsNow_23 rfl e12 (Nat.le_of_ble_eq_true rfl) (fun z => absurd z (by decide)) (fun z => absurd z (by decide)) (fun z => absurd z (by decide)) (c_M_needOf e15) rfl ?_
      refine g_st [.int x16, .int b1] rfl ?_
      refine g_ifle (pc := 26) 37 d_M_fallsNow_26 (by decide) (fun c22 => ?_) (fun c22 => ?_)
      · replace hf := (if_pos c22).symm.trans hf
        refine g_lv [0, 2] rfl ?_
        exact t_M_fallsNow_37 rec4 hrec4 _ _ _ _ _ _  hf
      · replace hf := (if_neg c22).symm.trans hf
        refine g_aload_n (pc := 29) 0 d_M_fallsNow_29 rfl rfl ?_
        refine g_iload_n (pc := 30) 2 d_M_fallsNow_30 rfl rfl ?_
        obtain ⟨u18, e17, hf⟩ := bd1_e hf
        obtain ⟨x21, h19, e20, hf⟩ := bd2_e hf
        refine g_callV (pc := 31) (ci := 8) [.int b2] (site_of si_M_chainOf (by decide) (by decide)) wd_1152 wd_1154 wp_48 d_M_fallsNow_31 rfl e17 (Nat.le_of_ble_eq_true rfl) (fun z => absurd z (by decide)) (fun z => absurd z (by decide)) (fun z => absurd z (by decide)) (c_M_chainOf e20) rfl ?_
        refine g_st [.int x21, .int b1] rfl ?_
        refine g_goto (pc := 34) 38 d_M_fallsNow_34 (by decide) ?_
        refine g_lv [0, 2] rfl ?_
        exact t_M_fallsNow_38 rec4 hrec4 _ _ _ _ _ _ _  hf
def f_M_fallsNow_4  : Nat → Nat → Int32 → Int32 → mH → Option (Int32 × mH)
  | 0 => fun _ _ _ _ => none
  | n + 1 => f_M_fallsNow_4b  (f_M_fallsNow_4  n)
theorem t_M_fallsNow_4 {sc : Nat × (Nat → Int32)}  : ∀ (n : Nat) (b0 : Nat) (b1 : Int32) (b2 : Int32) (h : mH) (r : Int32) (h' : mH) (hf : f_M_fallsNow_4  n b0 b1 b2 h = some (r, h')), G sc y_M_fallsNow prog_10_method_34_code 3 (some .int) 2 45 4 [(0, .ref b0), (1, .int b1), (2, .int b2)] [] h (some (.int r)) h'
  | 0, _, _, _, _, _, _, hf => by cases hf
  | n + 1, _, _, _, _, _, _, hf => t_M_fallsNow_4b  (f_M_fallsNow_4  n) (t_M_fallsNow_4  n) _ _ _ _ _ _ hf
def f_M_fallsNow_0  (a0 : Nat) (h : mH) : Option (Int32 × mH) :=
  f_M_fallsNow_4  FU a0 (0 : Int32) (0 : Int32) h
set_option maxRecDepth 20000 in
theorem t_M_fallsNow_0 {sc : Nat × (Nat → Int32)}  (a0 : Nat) (h : mH) (r : Int32) (h' : mH) (hf : f_M_fallsNow_0  a0 h = some (r, h')) : G sc y_M_fallsNow prog_10_method_34_code 3 (some .int) 2 45 0 [(0, .ref a0)] [] h (some (.int r)) h' := by
  unfold f_M_fallsNow_0 at hf
  refine g_iconst (pc := 0) (0 : Int32) d_M_fallsNow_0 (by decide) ?_
  refine g_istore_n (pc := 1) [(1, .int (0 : Int32)), (0, .ref a0)] d_M_fallsNow_1 rfl (Nat.le_of_ble_eq_true rfl) rfl ?_
  refine g_iconst (pc := 2) (0 : Int32) d_M_fallsNow_2 (by decide) ?_
  refine g_istore_n (pc := 3) [(2, .int (0 : Int32)), (1, .int (0 : Int32)), (0, .ref a0)] d_M_fallsNow_3 rfl (Nat.le_of_ble_eq_true rfl) rfl ?_
  refine g_lv [2, 1, 0] rfl ?_
  exact t_M_fallsNow_4  FU _ _ _ _ _ _  hf
def f_M_fallsNow (a0 : Nat) (h : mH) : Option (Int32 × mH) := f_M_fallsNow_0 a0 h
theorem c_M_fallsNow {sc : Nat × (Nat → Int32)} {a0 : Nat} {h : mH} {r : Int32} {h' : mH} (hf : f_M_fallsNow a0 h = some (r, h')) : MM sc y_M_fallsNow prog_10_method_34_code 3 (some .int) 2 45 [.ref a0] h (some (.int r)) h' :=
  mm_of_G (by decide) (Nat.le_of_ble_eq_true rfl) (t_M_fallsNow_0 _ _ _ _ hf)
/-! M year ()I -/
set_option maxRecDepth 100000 in
theorem dd_M_year_0 : (decode prog_10_method_50_code 0 = .ok (.aload_n 0, 1)) ∧ (decode prog_10_method_50_code 1 = .ok (.getfield 7, 3)) ∧ (decode prog_10_method_50_code 4 = .ok (.bipush 39, 2)) ∧ (decode prog_10_method_50_code 6 = .ok (.iaload, 1)) ∧ (decode prog_10_method_50_code 7 = .ok (.sipush 999, 3)) ∧ (decode prog_10_method_50_code 10 = .ok (.if_icmp .ne 6, 3)) ∧ (decode prog_10_method_50_code 13 = .ok (.bipush (-3), 2)) ∧ (decode prog_10_method_50_code 15 = .ok (.ireturn, 1)) ∧ (decode prog_10_method_50_code 16 = .ok (.aload_n 0, 1)) ∧ (decode prog_10_method_50_code 17 = .ok (.invokevirtual 240, 3)) ∧ (decode prog_10_method_50_code 20 = .ok (.istore_n 1, 1)) ∧ (decode prog_10_method_50_code 21 = .ok (.aload_n 0, 1)) ∧ (decode prog_10_method_50_code 22 = .ok (.getfield 7, 3)) ∧ (decode prog_10_method_50_code 25 = .ok (.bipush 10, 2)) ∧ (decode prog_10_method_50_code 27 = .ok (.dup2, 1)) ∧ (decode prog_10_method_50_code 28 = .ok (.iaload, 1)) ∧ (decode prog_10_method_50_code 29 = .ok (.iload_n 1, 1)) ∧ (decode prog_10_method_50_code 30 = .ok (.iconst (-1), 1)) ∧ (decode prog_10_method_50_code 31 = .ok (.ixor, 1)) ∧ (decode prog_10_method_50_code 32 = .ok (.iand, 1)) ∧ (decode prog_10_method_50_code 33 = .ok (.iastore, 1)) ∧ (decode prog_10_method_50_code 34 = .ok (.iconst 0, 1)) ∧ (decode prog_10_method_50_code 35 = .ok (.istore_n 2, 1)) ∧ (decode prog_10_method_50_code 36 = .ok (.iload_n 2, 1)) := by
  have h : List.drop 0 prog_10_method_50_code.data.toList = 0x2a :: _ := rfl
  refine ⟨zq_k_n 42 h rfl (zq_o_42 _), ?_⟩
  replace h := zq_nx1 (q := 1) h rfl
  refine ⟨zq_k_u2 180 (fun z => .getfield z) 7 h rfl (zq_o_180 _) (by decide +kernel), ?_⟩
  replace h := zq_nx3 (q := 4) h rfl
  refine ⟨zq_k_s1 16 (fun z => .bipush z) 39 h rfl (zq_o_16 _) (by decide +kernel), ?_⟩
  replace h := zq_nx2 (q := 6) h rfl
  refine ⟨zq_k_n 46 h rfl (zq_o_46 _), ?_⟩
  replace h := zq_nx1 (q := 7) h rfl
  refine ⟨zq_k_s2 17 (fun z => .sipush z) 999 h rfl (zq_o_17 _) (by decide +kernel), ?_⟩
  replace h := zq_nx3 (q := 10) h rfl
  refine ⟨zq_k_s2 160 (fun z => .if_icmp .ne z) 6 h rfl (zq_o_160 _) (by decide +kernel), ?_⟩
  replace h := zq_nx3 (q := 13) h rfl
  refine ⟨zq_k_s1 16 (fun z => .bipush z) (-3) h rfl (zq_o_16 _) (by decide +kernel), ?_⟩
  replace h := zq_nx2 (q := 15) h rfl
  refine ⟨zq_k_n 172 h rfl (zq_o_172 _), ?_⟩
  replace h := zq_nx1 (q := 16) h rfl
  refine ⟨zq_k_n 42 h rfl (zq_o_42 _), ?_⟩
  replace h := zq_nx1 (q := 17) h rfl
  refine ⟨zq_k_u2 182 (fun z => .invokevirtual z) 240 h rfl (zq_o_182 _) (by decide +kernel), ?_⟩
  replace h := zq_nx3 (q := 20) h rfl
  refine ⟨zq_k_n 60 h rfl (zq_o_60 _), ?_⟩
  replace h := zq_nx1 (q := 21) h rfl
  refine ⟨zq_k_n 42 h rfl (zq_o_42 _), ?_⟩
  replace h := zq_nx1 (q := 22) h rfl
  refine ⟨zq_k_u2 180 (fun z => .getfield z) 7 h rfl (zq_o_180 _) (by decide +kernel), ?_⟩
  replace h := zq_nx3 (q := 25) h rfl
  refine ⟨zq_k_s1 16 (fun z => .bipush z) 10 h rfl (zq_o_16 _) (by decide +kernel), ?_⟩
  replace h := zq_nx2 (q := 27) h rfl
  refine ⟨zq_k_n 92 h rfl (zq_o_92 _), ?_⟩
  replace h := zq_nx1 (q := 28) h rfl
  refine ⟨zq_k_n 46 h rfl (zq_o_46 _), ?_⟩
  replace h := zq_nx1 (q := 29) h rfl
  refine ⟨zq_k_n 27 h rfl (zq_o_27 _), ?_⟩
  replace h := zq_nx1 (q := 30) h rfl
  refine ⟨zq_k_n 2 h rfl (zq_o_2 _), ?_⟩
  replace h := zq_nx1 (q := 31) h rfl
  refine ⟨zq_k_n 130 h rfl (zq_o_130 _), ?_⟩
  replace h := zq_nx1 (q := 32) h rfl
  refine ⟨zq_k_n 126 h rfl (zq_o_126 _), ?_⟩
  replace h := zq_nx1 (q := 33) h rfl
  refine ⟨zq_k_n 79 h rfl (zq_o_79 _), ?_⟩
  replace h := zq_nx1 (q := 34) h rfl
  refine ⟨zq_k_n 3 h rfl (zq_o_3 _), ?_⟩
  replace h := zq_nx1 (q := 35) h rfl
  refine ⟨zq_k_n 61 h rfl (zq_o_61 _), ?_⟩
  replace h := zq_nx1 (q := 36) h rfl
  exact zq_k_n 28 h rfl (zq_o_28 _)
theorem d_M_year_0 : decode prog_10_method_50_code 0 = .ok (.aload_n 0, 1) := dd_M_year_0.1
theorem d_M_year_1 : decode prog_10_method_50_code 1 = .ok (.getfield 7, 3) := dd_M_year_0.2.1
theorem d_M_year_4 : decode prog_10_method_50_code 4 = .ok (.bipush 39, 2) := dd_M_year_0.2.2.1
theorem d_M_year_6 : decode prog_10_method_50_code 6 = .ok (.iaload, 1) := dd_M_year_0.2.2.2.1
theorem d_M_year_7 : decode prog_10_method_50_code 7 = .ok (.sipush 999, 3) := dd_M_year_0.2.2.2.2.1
theorem d_M_year_10 : decode prog_10_method_50_code 10 = .ok (.if_icmp .ne 6, 3) := dd_M_year_0.2.2.2.2.2.1
theorem d_M_year_13 : decode prog_10_method_50_code 13 = .ok (.bipush (-3), 2) := dd_M_year_0.2.2.2.2.2.2.1
theorem d_M_year_15 : decode prog_10_method_50_code 15 = .ok (.ireturn, 1) := dd_M_year_0.2.2.2.2.2.2.2.1
theorem d_M_year_16 : decode prog_10_method_50_code 16 = .ok (.aload_n 0, 1) := dd_M_year_0.2.2.2.2.2.2.2.2.1
theorem d_M_year_17 : decode prog_10_method_50_code 17 = .ok (.invokevirtual 240, 3) := dd_M_year_0.2.2.2.2.2.2.2.2.2.1
theorem d_M_year_20 : decode prog_10_method_50_code 20 = .ok (.istore_n 1, 1) := dd_M_year_0.2.2.2.2.2.2.2.2.2.2.1
theorem d_M_year_21 : decode prog_10_method_50_code 21 = .ok (.aload_n 0, 1) := dd_M_year_0.2.2.2.2.2.2.2.2.2.2.2.1
theorem d_M_year_22 : decode prog_10_method_50_code 22 = .ok (.getfield 7, 3) := dd_M_year_0.2.2.2.2.2.2.2.2.2.2.2.2.1
theorem d_M_year_25 : decode prog_10_method_50_code 25 = .ok (.bipush 10, 2) := dd_M_year_0.2.2.2.2.2.2.2.2.2.2.2.2.2.1
theorem d_M_year_27 : decode prog_10_method_50_code 27 = .ok (.dup2, 1) := dd_M_year_0.2.2.2.2.2.2.2.2.2.2.2.2.2.2.1
theorem d_M_year_28 : decode prog_10_method_50_code 28 = .ok (.iaload, 1) := dd_M_year_0.2.2.2.2.2.2.2.2.2.2.2.2.2.2.2.1
theorem d_M_year_29 : decode prog_10_method_50_code 29 = .ok (.iload_n 1, 1) := dd_M_year_0.2.2.2.2.2.2.2.2.2.2.2.2.2.2.2.2.1
theorem d_M_year_30 : decode prog_10_method_50_code 30 = .ok (.iconst (-1), 1) := dd_M_year_0.2.2.2.2.2.2.2.2.2.2.2.2.2.2.2.2.2.1
theorem d_M_year_31 : decode prog_10_method_50_code 31 = .ok (.ixor, 1) := dd_M_year_0.2.2.2.2.2.2.2.2.2.2.2.2.2.2.2.2.2.2.1
theorem d_M_year_32 : decode prog_10_method_50_code 32 = .ok (.iand, 1) := dd_M_year_0.2.2.2.2.2.2.2.2.2.2.2.2.2.2.2.2.2.2.2.1
theorem d_M_year_33 : decode prog_10_method_50_code 33 = .ok (.iastore, 1) := dd_M_year_0.2.2.2.2.2.2.2.2.2.2.2.2.2.2.2.2.2.2.2.2.1
theorem d_M_year_34 : decode prog_10_method_50_code 34 = .ok (.iconst 0, 1) := dd_M_year_0.2.2.2.2.2.2.2.2.2.2.2.2.2.2.2.2.2.2.2.2.2.1
theorem d_M_year_35 : decode prog_10_method_50_code 35 = .ok (.istore_n 2, 1) := dd_M_year_0.2.2.2.2.2.2.2.2.2.2.2.2.2.2.2.2.2.2.2.2.2.2.1
theorem d_M_year_36 : decode prog_10_method_50_code 36 = .ok (.iload_n 2, 1) := dd_M_year_0.2.2.2.2.2.2.2.2.2.2.2.2.2.2.2.2.2.2.2.2.2.2.2
set_option maxRecDepth 100000 in
theorem dd_M_year_37 : (decode prog_10_method_50_code 37 = .ok (.bipush 15, 2)) ∧ (decode prog_10_method_50_code 39 = .ok (.if_icmp .ge 19, 3)) ∧ (decode prog_10_method_50_code 42 = .ok (.aload_n 0, 1)) ∧ (decode prog_10_method_50_code 43 = .ok (.getfield 7, 3)) ∧ (decode prog_10_method_50_code 46 = .ok (.bipush 24, 2)) ∧ (decode prog_10_method_50_code 48 = .ok (.iload_n 2, 1)) ∧ (decode prog_10_method_50_code 49 = .ok (.iadd, 1)) ∧ (decode prog_10_method_50_code 50 = .ok (.iconst 0, 1)) ∧ (decode prog_10_method_50_code 51 = .ok (.iastore, 1)) ∧ (decode prog_10_method_50_code 52 = .ok (.iinc 2 1, 3)) ∧ (decode prog_10_method_50_code 55 = .ok (.goto (-19), 3)) ∧ (decode prog_10_method_50_code 58 = .ok (.aload_n 0, 1)) ∧ (decode prog_10_method_50_code 59 = .ok (.getfield 7, 3)) ∧ (decode prog_10_method_50_code 62 = .ok (.bipush 39, 2)) ∧ (decode prog_10_method_50_code 64 = .ok (.dup2, 1)) ∧ (decode prog_10_method_50_code 65 = .ok (.iaload, 1)) ∧ (decode prog_10_method_50_code 66 = .ok (.iconst 1, 1)) ∧ (decode prog_10_method_50_code 67 = .ok (.iadd, 1)) ∧ (decode prog_10_method_50_code 68 = .ok (.iastore, 1)) ∧ (decode prog_10_method_50_code 69 = .ok (.iload_n 1, 1)) ∧ (decode prog_10_method_50_code 70 = .ok (.ireturn, 1)) := by
  have h : List.drop 37 prog_10_method_50_code.data.toList = 0x10 :: _ := rfl
  refine ⟨zq_k_s1 16 (fun z => .bipush z) 15 h rfl (zq_o_16 _) (by decide +kernel), ?_⟩
  replace h := zq_nx2 (q := 39) h rfl
  refine ⟨zq_k_s2 162 (fun z => .if_icmp .ge z) 19 h rfl (zq_o_162 _) (by decide +kernel), ?_⟩
  replace h := zq_nx3 (q := 42) h rfl
  refine ⟨zq_k_n 42 h rfl (zq_o_42 _), ?_⟩
  replace h := zq_nx1 (q := 43) h rfl
  refine ⟨zq_k_u2 180 (fun z => .getfield z) 7 h rfl (zq_o_180 _) (by decide +kernel), ?_⟩
  replace h := zq_nx3 (q := 46) h rfl
  refine ⟨zq_k_s1 16 (fun z => .bipush z) 24 h rfl (zq_o_16 _) (by decide +kernel), ?_⟩
  replace h := zq_nx2 (q := 48) h rfl
  refine ⟨zq_k_n 28 h rfl (zq_o_28 _), ?_⟩
  replace h := zq_nx1 (q := 49) h rfl
  refine ⟨zq_k_n 96 h rfl (zq_o_96 _), ?_⟩
  replace h := zq_nx1 (q := 50) h rfl
  refine ⟨zq_k_n 3 h rfl (zq_o_3 _), ?_⟩
  replace h := zq_nx1 (q := 51) h rfl
  refine ⟨zq_k_n 79 h rfl (zq_o_79 _), ?_⟩
  replace h := zq_nx1 (q := 52) h rfl
  refine ⟨zq_k_iinc 2 1 h rfl (zq_o_132 _) (by decide +kernel) (by decide +kernel), ?_⟩
  replace h := zq_nx3 (q := 55) h rfl
  refine ⟨zq_k_s2 167 (fun z => .goto z) (-19) h rfl (zq_o_167 _) (by decide +kernel), ?_⟩
  replace h := zq_nx3 (q := 58) h rfl
  refine ⟨zq_k_n 42 h rfl (zq_o_42 _), ?_⟩
  replace h := zq_nx1 (q := 59) h rfl
  refine ⟨zq_k_u2 180 (fun z => .getfield z) 7 h rfl (zq_o_180 _) (by decide +kernel), ?_⟩
  replace h := zq_nx3 (q := 62) h rfl
  refine ⟨zq_k_s1 16 (fun z => .bipush z) 39 h rfl (zq_o_16 _) (by decide +kernel), ?_⟩
  replace h := zq_nx2 (q := 64) h rfl
  refine ⟨zq_k_n 92 h rfl (zq_o_92 _), ?_⟩
  replace h := zq_nx1 (q := 65) h rfl
  refine ⟨zq_k_n 46 h rfl (zq_o_46 _), ?_⟩
  replace h := zq_nx1 (q := 66) h rfl
  refine ⟨zq_k_n 4 h rfl (zq_o_4 _), ?_⟩
  replace h := zq_nx1 (q := 67) h rfl
  refine ⟨zq_k_n 96 h rfl (zq_o_96 _), ?_⟩
  replace h := zq_nx1 (q := 68) h rfl
  refine ⟨zq_k_n 79 h rfl (zq_o_79 _), ?_⟩
  replace h := zq_nx1 (q := 69) h rfl
  refine ⟨zq_k_n 27 h rfl (zq_o_27 _), ?_⟩
  replace h := zq_nx1 (q := 70) h rfl
  exact zq_k_n 172 h rfl (zq_o_172 _)
theorem d_M_year_37 : decode prog_10_method_50_code 37 = .ok (.bipush 15, 2) := dd_M_year_37.1
theorem d_M_year_39 : decode prog_10_method_50_code 39 = .ok (.if_icmp .ge 19, 3) := dd_M_year_37.2.1
theorem d_M_year_42 : decode prog_10_method_50_code 42 = .ok (.aload_n 0, 1) := dd_M_year_37.2.2.1
theorem d_M_year_43 : decode prog_10_method_50_code 43 = .ok (.getfield 7, 3) := dd_M_year_37.2.2.2.1
theorem d_M_year_46 : decode prog_10_method_50_code 46 = .ok (.bipush 24, 2) := dd_M_year_37.2.2.2.2.1
theorem d_M_year_48 : decode prog_10_method_50_code 48 = .ok (.iload_n 2, 1) := dd_M_year_37.2.2.2.2.2.1
theorem d_M_year_49 : decode prog_10_method_50_code 49 = .ok (.iadd, 1) := dd_M_year_37.2.2.2.2.2.2.1
theorem d_M_year_50 : decode prog_10_method_50_code 50 = .ok (.iconst 0, 1) := dd_M_year_37.2.2.2.2.2.2.2.1
theorem d_M_year_51 : decode prog_10_method_50_code 51 = .ok (.iastore, 1) := dd_M_year_37.2.2.2.2.2.2.2.2.1
theorem d_M_year_52 : decode prog_10_method_50_code 52 = .ok (.iinc 2 1, 3) := dd_M_year_37.2.2.2.2.2.2.2.2.2.1
theorem d_M_year_55 : decode prog_10_method_50_code 55 = .ok (.goto (-19), 3) := dd_M_year_37.2.2.2.2.2.2.2.2.2.2.1
theorem d_M_year_58 : decode prog_10_method_50_code 58 = .ok (.aload_n 0, 1) := dd_M_year_37.2.2.2.2.2.2.2.2.2.2.2.1
theorem d_M_year_59 : decode prog_10_method_50_code 59 = .ok (.getfield 7, 3) := dd_M_year_37.2.2.2.2.2.2.2.2.2.2.2.2.1
theorem d_M_year_62 : decode prog_10_method_50_code 62 = .ok (.bipush 39, 2) := dd_M_year_37.2.2.2.2.2.2.2.2.2.2.2.2.2.1
theorem d_M_year_64 : decode prog_10_method_50_code 64 = .ok (.dup2, 1) := dd_M_year_37.2.2.2.2.2.2.2.2.2.2.2.2.2.2.1
theorem d_M_year_65 : decode prog_10_method_50_code 65 = .ok (.iaload, 1) := dd_M_year_37.2.2.2.2.2.2.2.2.2.2.2.2.2.2.2.1
theorem d_M_year_66 : decode prog_10_method_50_code 66 = .ok (.iconst 1, 1) := dd_M_year_37.2.2.2.2.2.2.2.2.2.2.2.2.2.2.2.2.1
theorem d_M_year_67 : decode prog_10_method_50_code 67 = .ok (.iadd, 1) := dd_M_year_37.2.2.2.2.2.2.2.2.2.2.2.2.2.2.2.2.2.1
theorem d_M_year_68 : decode prog_10_method_50_code 68 = .ok (.iastore, 1) := dd_M_year_37.2.2.2.2.2.2.2.2.2.2.2.2.2.2.2.2.2.2.1
theorem d_M_year_69 : decode prog_10_method_50_code 69 = .ok (.iload_n 1, 1) := dd_M_year_37.2.2.2.2.2.2.2.2.2.2.2.2.2.2.2.2.2.2.2.1
theorem d_M_year_70 : decode prog_10_method_50_code 70 = .ok (.ireturn, 1) := dd_M_year_37.2.2.2.2.2.2.2.2.2.2.2.2.2.2.2.2.2.2.2.2
def f_M_year_36b (rec36 : Nat → Int32 → Int32 → mH → Option (Int32 × mH)) (b0 : Nat) (b1 : Int32) (b2 : Int32) (h : mH) : Option (Int32 × mH) :=
  if (15 : Int32) ≤ b2 then
    bd1 (gR h b0 8 0) fun x17 =>
    bd1 (aI h 0 x17 (39 : Int32)) fun x19 =>
    bd1 (sI h 0 x17 (39 : Int32) (x19 + (1 : Int32))) fun h21 =>
    some (b1, h21)
  else
    bd1 (gR h b0 8 0) fun x23 =>
    bd1 (sI h 0 x23 ((24 : Int32) + b2) (0 : Int32)) fun h25 =>
    rec36 b0 b1 (b2 + (1 : Int32)) h25
set_option maxRecDepth 20000 in
theorem t_M_year_36b {sc : Nat × (Nat → Int32)} (rec36 : Nat → Int32 → Int32 → mH → Option (Int32 × mH)) (hrec36 : ∀ (b0 : Nat) (b1 : Int32) (b2 : Int32) (h : mH) (r : Int32) (h' : mH), rec36 b0 b1 b2 h = some (r, h') → G sc y_M_year prog_10_method_50_code 3 (some .int) 3 67 36 [(0, .ref b0), (1, .int b1), (2, .int b2)] [] h (some (.int r)) h') (b0 : Nat) (b1 : Int32) (b2 : Int32) (h : mH) (r : Int32) (h' : mH) (hf : f_M_year_36b rec36 b0 b1 b2 h = some (r, h')) : G sc y_M_year prog_10_method_50_code 3 (some .int) 3 67 36 [(0, .ref b0), (1, .int b1), (2, .int b2)] [] h (some (.int r)) h' := by
  unfold f_M_year_36b at hf
  refine g_iload_n (pc := 36) 2 d_M_year_36 rfl rfl ?_
  refine g_bipush (pc := 37) (15 : Int32) d_M_year_37 (by decide) ?_
  refine g_icmpge (pc := 39) 58 d_M_year_39 (by decide) (fun c27 => ?_) (fun c27 => ?_)
  · replace hf := (if_pos c27).symm.trans hf
    refine g_aload_n (pc := 58) 0 d_M_year_58 rfl rfl ?_
    obtain ⟨x17, e18, hf⟩ := bd1_e hf
    refine g_get (pc := 59) (ci := 8) (kk := 0) d_M_year_59 rfl in_M (by decide) wd_938 (gR_spec e18) ?_
    refine g_bipush (pc := 62) (39 : Int32) d_M_year_62 (by decide) ?_
    refine g_dup2 (pc := 64) d_M_year_64 rfl rfl ?_
    obtain ⟨x19, e20, hf⟩ := bd1_e hf
    refine g_iald (pc := 65) d_M_year_65 e20 ?_
    refine g_iconst (pc := 66) (1 : Int32) d_M_year_66 (by decide) ?_
    refine g_iadd (pc := 67) d_M_year_67 ?_
    obtain ⟨h21, e22, hf⟩ := bd1_e hf
    refine g_iast (pc := 68) d_M_year_68 e22 ?_
    refine g_iload_n (pc := 69) 1 d_M_year_69 rfl rfl ?_
    obtain ⟨rfl, rfl⟩ := ret2 hf
    exact g_iret (pc := 70) rfl d_M_year_70
  · replace hf := (if_neg c27).symm.trans hf
    refine g_aload_n (pc := 42) 0 d_M_year_42 rfl rfl ?_
    obtain ⟨x23, e24, hf⟩ := bd1_e hf
    refine g_get (pc := 43) (ci := 8) (kk := 0) d_M_year_43 rfl in_M (by decide) wd_938 (gR_spec e24) ?_
    refine g_bipush (pc := 46) (24 : Int32) d_M_year_46 (by decide) ?_
    refine g_iload_n (pc := 48) 2 d_M_year_48 rfl rfl ?_
    refine g_iadd (pc := 49) d_M_year_49 ?_
    refine g_iconst (pc := 50) (0 : Int32) d_M_year_50 (by decide) ?_
    obtain ⟨h25, e26, hf⟩ := bd1_e hf
    refine g_iast (pc := 51) d_M_year_51 e26 ?_
    refine g_iinc (pc := 52) 2 (b2 + (1 : Int32)) [(2, .int (b2 + (1 : Int32))), (0, .ref b0), (1, .int b1)] d_M_year_52 rfl rfl (Nat.le_of_ble_eq_true rfl) rfl ?_
    refine g_goto (pc := 55) 36 d_M_year_55 (by decide) ?_
    refine g_lv [1, 2, 0] rfl ?_
    exact hrec36 _ _ _ _ _ _  hf
def f_M_year_36  : Nat → Nat → Int32 → Int32 → mH → Option (Int32 × mH)
  | 0 => fun _ _ _ _ => none
  | n + 1 => f_M_year_36b  (f_M_year_36  n)
theorem t_M_year_36 {sc : Nat × (Nat → Int32)}  : ∀ (n : Nat) (b0 : Nat) (b1 : Int32) (b2 : Int32) (h : mH) (r : Int32) (h' : mH) (hf : f_M_year_36  n b0 b1 b2 h = some (r, h')), G sc y_M_year prog_10_method_50_code 3 (some .int) 3 67 36 [(0, .ref b0), (1, .int b1), (2, .int b2)] [] h (some (.int r)) h'
  | 0, _, _, _, _, _, _, hf => by cases hf
  | n + 1, _, _, _, _, _, _, hf => t_M_year_36b  (f_M_year_36  n) (t_M_year_36  n) _ _ _ _ _ _ hf
def f_M_year_0  (a0 : Nat) (h : mH) : Option (Int32 × mH) :=
  bd1 (gR h a0 8 0) fun x1 =>
  bd1 (aI h 0 x1 (39 : Int32)) fun x3 =>
  if x3 = (999 : Int32) then
    some (((-3) : Int32), h)
  else
    bd1 (kC h a0 8) fun _ =>
    bd2 (f_M_fallsNow a0 h) fun x9 h7 =>
    bd1 (gR h7 a0 8 0) fun x10 =>
    bd1 (aI h7 0 x10 (10 : Int32)) fun x12 =>
    bd1 (sI h7 0 x10 (10 : Int32) (x12 &&& (x9 ^^^ ((-1) : Int32)))) fun h14 =>
    f_M_year_36  FU a0 x9 (0 : Int32) h14
set_option maxRecDepth 20000 in
theorem t_M_year_0 {sc : Nat × (Nat → Int32)}  (a0 : Nat) (h : mH) (r : Int32) (h' : mH) (hf : f_M_year_0  a0 h = some (r, h')) : G sc y_M_year prog_10_method_50_code 3 (some .int) 3 67 0 [(0, .ref a0)] [] h (some (.int r)) h' := by
  unfold f_M_year_0 at hf
  refine g_aload_n (pc := 0) 0 d_M_year_0 rfl rfl ?_
  obtain ⟨x1, e2, hf⟩ := bd1_e hf
  refine g_get (pc := 1) (ci := 8) (kk := 0) d_M_year_1 rfl in_M (by decide) wd_938 (gR_spec e2) ?_
  refine g_bipush (pc := 4) (39 : Int32) d_M_year_4 (by decide) ?_
  obtain ⟨x3, e4, hf⟩ := bd1_e hf
  refine g_iald (pc := 6) d_M_year_6 e4 ?_
  refine g_sipush (pc := 7) (999 : Int32) d_M_year_7 (by decide) ?_
  refine g_icmpne (pc := 10) 16 d_M_year_10 (by decide) (fun c16 => ?_) (fun c16 => ?_)
  · replace hf := (if_neg c16).symm.trans hf
    refine g_aload_n (pc := 16) 0 d_M_year_16 rfl rfl ?_
    obtain ⟨u6, e5, hf⟩ := bd1_e hf
    obtain ⟨x9, h7, e8, hf⟩ := bd2_e hf
    refine g_callV (pc := 17) (ci := 8) [] (site_of si_M_fallsNow (by decide) (by decide)) wd_1241 wd_1243 wp_56 d_M_year_17 rfl e5 (Nat.le_of_ble_eq_true rfl) (fun z => absurd z (by decide)) (fun z => absurd z (by decide)) (fun z => absurd z (by decide)) (c_M_fallsNow e8) rfl ?_
    refine g_st [.int x9] rfl ?_
    refine g_istore_n (pc := 20) [(1, .int x9), (0, .ref a0)] d_M_year_20 rfl (Nat.le_of_ble_eq_true rfl) rfl ?_
    refine g_aload_n (pc := 21) 1 d_M_year_21 rfl rfl ?_
    obtain ⟨x10, e11, hf⟩ := bd1_e hf
    refine g_get (pc := 22) (ci := 8) (kk := 0) d_M_year_22 rfl in_M (by decide) wd_938 (gR_spec e11) ?_
    refine g_bipush (pc := 25) (10 : Int32) d_M_year_25 (by decide) ?_
    refine g_dup2 (pc := 27) d_M_year_27 rfl rfl ?_
    obtain ⟨x12, e13, hf⟩ := bd1_e hf
    refine g_iald (pc := 28) d_M_year_28 e13 ?_
    refine g_iload_n (pc := 29) 0 d_M_year_29 rfl rfl ?_
    refine g_iconst (pc := 30) ((-1) : Int32) d_M_year_30 (by decide) ?_
    refine g_ixor (pc := 31) d_M_year_31 ?_
    refine g_iand (pc := 32) d_M_year_32 ?_
    obtain ⟨h14, e15, hf⟩ := bd1_e hf
    refine g_iast (pc := 33) d_M_year_33 e15 ?_
    refine g_iconst (pc := 34) (0 : Int32) d_M_year_34 (by decide) ?_
    refine g_istore_n (pc := 35) [(2, .int (0 : Int32)), (1, .int x9), (0, .ref a0)] d_M_year_35 rfl (Nat.le_of_ble_eq_true rfl) rfl ?_
    refine g_lv [2, 1, 0] rfl ?_
    exact t_M_year_36  FU _ _ _ _ _ _  hf
  · replace hf := (if_pos c16).symm.trans hf
    refine g_bipush (pc := 13) ((-3) : Int32) d_M_year_13 (by decide) ?_
    obtain ⟨rfl, rfl⟩ := ret2 hf
    exact g_iret (pc := 15) rfl d_M_year_15
def f_M_year (a0 : Nat) (h : mH) : Option (Int32 × mH) := f_M_year_0 a0 h
theorem c_M_year {sc : Nat × (Nat → Int32)} {a0 : Nat} {h : mH} {r : Int32} {h' : mH} (hf : f_M_year a0 h = some (r, h')) : MM sc y_M_year prog_10_method_50_code 3 (some .int) 3 67 [.ref a0] h (some (.int r)) h' :=
  mm_of_G (by decide) (Nat.le_of_ble_eq_true rfl) (t_M_year_0 _ _ _ _ hf)
