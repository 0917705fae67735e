/-! 34.own -/
section
/-! Tables waysTo (IIII)J -/
set_option maxRecDepth 100000 in
theorem dd_Tables_waysTo_0 : (decode prog_8_method_8_code 0 = .ok (.aload_n 0, 1)) ∧ (decode prog_8_method_8_code 1 = .ok (.getfield 15, 3)) ∧ (decode prog_8_method_8_code 4 = .ok (.iload 4, 2)) ∧ (decode prog_8_method_8_code 6 = .ok (.iaload, 1)) ∧ (decode prog_8_method_8_code 7 = .ok (.iload_n 1, 1)) ∧ (decode prog_8_method_8_code 8 = .ok (.invokestatic 101, 3)) ∧ (decode prog_8_method_8_code 11 = .ok (.istore 5, 2)) ∧ (decode prog_8_method_8_code 13 = .ok (.aload_n 0, 1)) ∧ (decode prog_8_method_8_code 14 = .ok (.getfield 15, 3)) ∧ (decode prog_8_method_8_code 17 = .ok (.iconst 5, 1)) ∧ (decode prog_8_method_8_code 18 = .ok (.iload 4, 2)) ∧ (decode prog_8_method_8_code 20 = .ok (.iadd, 1)) ∧ (decode prog_8_method_8_code 21 = .ok (.iaload, 1)) ∧ (decode prog_8_method_8_code 22 = .ok (.iload_n 2, 1)) ∧ (decode prog_8_method_8_code 23 = .ok (.invokestatic 101, 3)) ∧ (decode prog_8_method_8_code 26 = .ok (.istore 6, 2)) ∧ (decode prog_8_method_8_code 28 = .ok (.aload_n 0, 1)) ∧ (decode prog_8_method_8_code 29 = .ok (.getfield 15, 3)) ∧ (decode prog_8_method_8_code 32 = .ok (.bipush 10, 2)) ∧ (decode prog_8_method_8_code 34 = .ok (.iload 4, 2)) ∧ (decode prog_8_method_8_code 36 = .ok (.iadd, 1)) ∧ (decode prog_8_method_8_code 37 = .ok (.iaload, 1)) ∧ (decode prog_8_method_8_code 38 = .ok (.iload_n 3, 1)) ∧ (decode prog_8_method_8_code 39 = .ok (.invokestatic 101, 3)) := by
  have h : List.drop 0 prog_8_method_8_code.data.toList = 0x2a :: _ := rfl
  refine ⟨zq_k_n 42 h rfl (zq_o_42 _), ?_⟩
  replace h := zq_nx1 (q := 1) h rfl
  refine ⟨zq_k_u2 180 (fun z => .getfield z) 15 h rfl (zq_o_180 _) (by decide +kernel), ?_⟩
  replace h := zq_nx3 (q := 4) h rfl
  refine ⟨zq_k_u1 21 (fun z => .iload z) 4 h rfl (zq_o_21 _) (by decide +kernel), ?_⟩
  replace h := zq_nx2 (q := 6) h rfl
  refine ⟨zq_k_n 46 h rfl (zq_o_46 _), ?_⟩
  replace h := zq_nx1 (q := 7) h rfl
  refine ⟨zq_k_n 27 h rfl (zq_o_27 _), ?_⟩
  replace h := zq_nx1 (q := 8) h rfl
  refine ⟨zq_k_u2 184 (fun z => .invokestatic z) 101 h rfl (zq_o_184 _) (by decide +kernel), ?_⟩
  replace h := zq_nx3 (q := 11) h rfl
  refine ⟨zq_k_u1 54 (fun z => .istore z) 5 h rfl (zq_o_54 _) (by decide +kernel), ?_⟩
  replace h := zq_nx2 (q := 13) h rfl
  refine ⟨zq_k_n 42 h rfl (zq_o_42 _), ?_⟩
  replace h := zq_nx1 (q := 14) h rfl
  refine ⟨zq_k_u2 180 (fun z => .getfield z) 15 h rfl (zq_o_180 _) (by decide +kernel), ?_⟩
  replace h := zq_nx3 (q := 17) h rfl
  refine ⟨zq_k_n 8 h rfl (zq_o_8 _), ?_⟩
  replace h := zq_nx1 (q := 18) h rfl
  refine ⟨zq_k_u1 21 (fun z => .iload z) 4 h rfl (zq_o_21 _) (by decide +kernel), ?_⟩
  replace h := zq_nx2 (q := 20) h rfl
  refine ⟨zq_k_n 96 h rfl (zq_o_96 _), ?_⟩
  replace h := zq_nx1 (q := 21) h rfl
  refine ⟨zq_k_n 46 h rfl (zq_o_46 _), ?_⟩
  replace h := zq_nx1 (q := 22) h rfl
  refine ⟨zq_k_n 28 h rfl (zq_o_28 _), ?_⟩
  replace h := zq_nx1 (q := 23) h rfl
  refine ⟨zq_k_u2 184 (fun z => .invokestatic z) 101 h rfl (zq_o_184 _) (by decide +kernel), ?_⟩
  replace h := zq_nx3 (q := 26) h rfl
  refine ⟨zq_k_u1 54 (fun z => .istore z) 6 h rfl (zq_o_54 _) (by decide +kernel), ?_⟩
  replace h := zq_nx2 (q := 28) h rfl
  refine ⟨zq_k_n 42 h rfl (zq_o_42 _), ?_⟩
  replace h := zq_nx1 (q := 29) h rfl
  refine ⟨zq_k_u2 180 (fun z => .getfield z) 15 h rfl (zq_o_180 _) (by decide +kernel), ?_⟩
  replace h := zq_nx3 (q := 32) h rfl
  refine ⟨zq_k_s1 16 (fun z => .bipush z) 10 h rfl (zq_o_16 _) (by decide +kernel), ?_⟩
  replace h := zq_nx2 (q := 34) h rfl
  refine ⟨zq_k_u1 21 (fun z => .iload z) 4 h rfl (zq_o_21 _) (by decide +kernel), ?_⟩
  replace h := zq_nx2 (q := 36) h rfl
  refine ⟨zq_k_n 96 h rfl (zq_o_96 _), ?_⟩
  replace h := zq_nx1 (q := 37) h rfl
  refine ⟨zq_k_n 46 h rfl (zq_o_46 _), ?_⟩
  replace h := zq_nx1 (q := 38) h rfl
  refine ⟨zq_k_n 29 h rfl (zq_o_29 _), ?_⟩
  replace h := zq_nx1 (q := 39) h rfl
  exact zq_k_u2 184 (fun z => .invokestatic z) 101 h rfl (zq_o_184 _) (by decide +kernel)
set_option maxRecDepth 100000 in
theorem dd_Tables_waysTo_42 : (decode prog_8_method_8_code 42 = .ok (.istore 7, 2)) ∧ (decode prog_8_method_8_code 44 = .ok (.lconst 0, 1)) ∧ (decode prog_8_method_8_code 45 = .ok (.lstore 8, 2)) ∧ (decode prog_8_method_8_code 47 = .ok (.aload_n 0, 1)) ∧ (decode prog_8_method_8_code 48 = .ok (.getfield 9, 3)) ∧ (decode prog_8_method_8_code 51 = .ok (.iload 4, 2)) ∧ (decode prog_8_method_8_code 53 = .ok (.iaload, 1)) ∧ (decode prog_8_method_8_code 54 = .ok (.istore 10, 2)) ∧ (decode prog_8_method_8_code 56 = .ok (.iload 10, 2)) ∧ (decode prog_8_method_8_code 58 = .ok (.iload 5, 2)) ∧ (decode prog_8_method_8_code 60 = .ok (.if_icmp .gt 93, 3)) ∧ (decode prog_8_method_8_code 63 = .ok (.aload_n 0, 1)) ∧ (decode prog_8_method_8_code 64 = .ok (.getfield 9, 3)) ∧ (decode prog_8_method_8_code 67 = .ok (.iconst 5, 1)) ∧ (decode prog_8_method_8_code 68 = .ok (.iload 4, 2)) ∧ (decode prog_8_method_8_code 70 = .ok (.iadd, 1)) ∧ (decode prog_8_method_8_code 71 = .ok (.iaload, 1)) ∧ (decode prog_8_method_8_code 72 = .ok (.istore 11, 2)) ∧ (decode prog_8_method_8_code 74 = .ok (.iload 11, 2)) ∧ (decode prog_8_method_8_code 76 = .ok (.iload 6, 2)) ∧ (decode prog_8_method_8_code 78 = .ok (.if_icmp .gt 69, 3)) ∧ (decode prog_8_method_8_code 81 = .ok (.aload_n 0, 1)) ∧ (decode prog_8_method_8_code 82 = .ok (.getfield 18, 3)) ∧ (decode prog_8_method_8_code 85 = .ok (.iload 4, 2)) := by
  have h : List.drop 42 prog_8_method_8_code.data.toList = 0x36 :: _ := rfl
  refine ⟨zq_k_u1 54 (fun z => .istore z) 7 h rfl (zq_o_54 _) (by decide +kernel), ?_⟩
  replace h := zq_nx2 (q := 44) h rfl
  refine ⟨zq_k_n 9 h rfl (zq_o_9 _), ?_⟩
  replace h := zq_nx1 (q := 45) h rfl
  refine ⟨zq_k_u1 55 (fun z => .lstore z) 8 h rfl (zq_o_55 _) (by decide +kernel), ?_⟩
  replace h := zq_nx2 (q := 47) h rfl
  refine ⟨zq_k_n 42 h rfl (zq_o_42 _), ?_⟩
  replace h := zq_nx1 (q := 48) h rfl
  refine ⟨zq_k_u2 180 (fun z => .getfield z) 9 h rfl (zq_o_180 _) (by decide +kernel), ?_⟩
  replace h := zq_nx3 (q := 51) h rfl
  refine ⟨zq_k_u1 21 (fun z => .iload z) 4 h rfl (zq_o_21 _) (by decide +kernel), ?_⟩
  replace h := zq_nx2 (q := 53) h rfl
  refine ⟨zq_k_n 46 h rfl (zq_o_46 _), ?_⟩
  replace h := zq_nx1 (q := 54) h rfl
  refine ⟨zq_k_u1 54 (fun z => .istore z) 10 h rfl (zq_o_54 _) (by decide +kernel), ?_⟩
  replace h := zq_nx2 (q := 56) h rfl
  refine ⟨zq_k_u1 21 (fun z => .iload z) 10 h rfl (zq_o_21 _) (by decide +kernel), ?_⟩
  replace h := zq_nx2 (q := 58) h rfl
  refine ⟨zq_k_u1 21 (fun z => .iload z) 5 h rfl (zq_o_21 _) (by decide +kernel), ?_⟩
  replace h := zq_nx2 (q := 60) h rfl
  refine ⟨zq_k_s2 163 (fun z => .if_icmp .gt z) 93 h rfl (zq_o_163 _) (by decide +kernel), ?_⟩
  replace h := zq_nx3 (q := 63) h rfl
  refine ⟨zq_k_n 42 h rfl (zq_o_42 _), ?_⟩
  replace h := zq_nx1 (q := 64) h rfl
  refine ⟨zq_k_u2 180 (fun z => .getfield z) 9 h rfl (zq_o_180 _) (by decide +kernel), ?_⟩
  replace h := zq_nx3 (q := 67) h rfl
  refine ⟨zq_k_n 8 h rfl (zq_o_8 _), ?_⟩
  replace h := zq_nx1 (q := 68) h rfl
  refine ⟨zq_k_u1 21 (fun z => .iload z) 4 h rfl (zq_o_21 _) (by decide +kernel), ?_⟩
  replace h := zq_nx2 (q := 70) h rfl
  refine ⟨zq_k_n 96 h rfl (zq_o_96 _), ?_⟩
  replace h := zq_nx1 (q := 71) h rfl
  refine ⟨zq_k_n 46 h rfl (zq_o_46 _), ?_⟩
  replace h := zq_nx1 (q := 72) h rfl
  refine ⟨zq_k_u1 54 (fun z => .istore z) 11 h rfl (zq_o_54 _) (by decide +kernel), ?_⟩
  replace h := zq_nx2 (q := 74) h rfl
  refine ⟨zq_k_u1 21 (fun z => .iload z) 11 h rfl (zq_o_21 _) (by decide +kernel), ?_⟩
  replace h := zq_nx2 (q := 76) h rfl
  refine ⟨zq_k_u1 21 (fun z => .iload z) 6 h rfl (zq_o_21 _) (by decide +kernel), ?_⟩
  replace h := zq_nx2 (q := 78) h rfl
  refine ⟨zq_k_s2 163 (fun z => .if_icmp .gt z) 69 h rfl (zq_o_163 _) (by decide +kernel), ?_⟩
  replace h := zq_nx3 (q := 81) h rfl
  refine ⟨zq_k_n 42 h rfl (zq_o_42 _), ?_⟩
  replace h := zq_nx1 (q := 82) h rfl
  refine ⟨zq_k_u2 180 (fun z => .getfield z) 18 h rfl (zq_o_180 _) (by decide +kernel), ?_⟩
  replace h := zq_nx3 (q := 85) h rfl
  exact zq_k_u1 21 (fun z => .iload z) 4 h rfl (zq_o_21 _) (by decide +kernel)
set_option maxRecDepth 100000 in
theorem dd_Tables_waysTo_87 : (decode prog_8_method_8_code 87 = .ok (.iaload, 1)) ∧ (decode prog_8_method_8_code 88 = .ok (.iload 10, 2)) ∧ (decode prog_8_method_8_code 90 = .ok (.isub, 1)) ∧ (decode prog_8_method_8_code 91 = .ok (.iload 11, 2)) ∧ (decode prog_8_method_8_code 93 = .ok (.isub, 1)) ∧ (decode prog_8_method_8_code 94 = .ok (.istore 12, 2)) ∧ (decode prog_8_method_8_code 96 = .ok (.iload 12, 2)) ∧ (decode prog_8_method_8_code 98 = .ok (.aload_n 0, 1)) ∧ (decode prog_8_method_8_code 99 = .ok (.getfield 9, 3)) ∧ (decode prog_8_method_8_code 102 = .ok (.bipush 10, 2)) ∧ (decode prog_8_method_8_code 104 = .ok (.iload 4, 2)) ∧ (decode prog_8_method_8_code 106 = .ok (.iadd, 1)) ∧ (decode prog_8_method_8_code 107 = .ok (.iaload, 1)) ∧ (decode prog_8_method_8_code 108 = .ok (.iload 7, 2)) ∧ (decode prog_8_method_8_code 110 = .ok (.invokestatic 106, 3)) ∧ (decode prog_8_method_8_code 113 = .ok (.ifCond .eq 28, 3)) ∧ (decode prog_8_method_8_code 116 = .ok (.lload 8, 2)) ∧ (decode prog_8_method_8_code 118 = .ok (.aload_n 0, 1)) ∧ (decode prog_8_method_8_code 119 = .ok (.getfield 31, 3)) ∧ (decode prog_8_method_8_code 122 = .ok (.iload_n 1, 1)) ∧ (decode prog_8_method_8_code 123 = .ok (.iload 10, 2)) ∧ (decode prog_8_method_8_code 125 = .ok (.isub, 1)) ∧ (decode prog_8_method_8_code 126 = .ok (.iload_n 2, 1)) ∧ (decode prog_8_method_8_code 127 = .ok (.iload 11, 2)) := by
  have h : List.drop 87 prog_8_method_8_code.data.toList = 0x2e :: _ := rfl
  refine ⟨zq_k_n 46 h rfl (zq_o_46 _), ?_⟩
  replace h := zq_nx1 (q := 88) h rfl
  refine ⟨zq_k_u1 21 (fun z => .iload z) 10 h rfl (zq_o_21 _) (by decide +kernel), ?_⟩
  replace h := zq_nx2 (q := 90) h rfl
  refine ⟨zq_k_n 100 h rfl (zq_o_100 _), ?_⟩
  replace h := zq_nx1 (q := 91) h rfl
  refine ⟨zq_k_u1 21 (fun z => .iload z) 11 h rfl (zq_o_21 _) (by decide +kernel), ?_⟩
  replace h := zq_nx2 (q := 93) h rfl
  refine ⟨zq_k_n 100 h rfl (zq_o_100 _), ?_⟩
  replace h := zq_nx1 (q := 94) h rfl
  refine ⟨zq_k_u1 54 (fun z => .istore z) 12 h rfl (zq_o_54 _) (by decide +kernel), ?_⟩
  replace h := zq_nx2 (q := 96) h rfl
  refine ⟨zq_k_u1 21 (fun z => .iload z) 12 h rfl (zq_o_21 _) (by decide +kernel), ?_⟩
  replace h := zq_nx2 (q := 98) h rfl
  refine ⟨zq_k_n 42 h rfl (zq_o_42 _), ?_⟩
  replace h := zq_nx1 (q := 99) h rfl
  refine ⟨zq_k_u2 180 (fun z => .getfield z) 9 h rfl (zq_o_180 _) (by decide +kernel), ?_⟩
  replace h := zq_nx3 (q := 102) h rfl
  refine ⟨zq_k_s1 16 (fun z => .bipush z) 10 h rfl (zq_o_16 _) (by decide +kernel), ?_⟩
  replace h := zq_nx2 (q := 104) h rfl
  refine ⟨zq_k_u1 21 (fun z => .iload z) 4 h rfl (zq_o_21 _) (by decide +kernel), ?_⟩
  replace h := zq_nx2 (q := 106) h rfl
  refine ⟨zq_k_n 96 h rfl (zq_o_96 _), ?_⟩
  replace h := zq_nx1 (q := 107) h rfl
  refine ⟨zq_k_n 46 h rfl (zq_o_46 _), ?_⟩
  replace h := zq_nx1 (q := 108) h rfl
  refine ⟨zq_k_u1 21 (fun z => .iload z) 7 h rfl (zq_o_21 _) (by decide +kernel), ?_⟩
  replace h := zq_nx2 (q := 110) h rfl
  refine ⟨zq_k_u2 184 (fun z => .invokestatic z) 106 h rfl (zq_o_184 _) (by decide +kernel), ?_⟩
  replace h := zq_nx3 (q := 113) h rfl
  refine ⟨zq_k_s2 153 (fun z => .ifCond .eq z) 28 h rfl (zq_o_153 _) (by decide +kernel), ?_⟩
  replace h := zq_nx3 (q := 116) h rfl
  refine ⟨zq_k_u1 22 (fun z => .lload z) 8 h rfl (zq_o_22 _) (by decide +kernel), ?_⟩
  replace h := zq_nx2 (q := 118) h rfl
  refine ⟨zq_k_n 42 h rfl (zq_o_42 _), ?_⟩
  replace h := zq_nx1 (q := 119) h rfl
  refine ⟨zq_k_u2 180 (fun z => .getfield z) 31 h rfl (zq_o_180 _) (by decide +kernel), ?_⟩
  replace h := zq_nx3 (q := 122) h rfl
  refine ⟨zq_k_n 27 h rfl (zq_o_27 _), ?_⟩
  replace h := zq_nx1 (q := 123) h rfl
  refine ⟨zq_k_u1 21 (fun z => .iload z) 10 h rfl (zq_o_21 _) (by decide +kernel), ?_⟩
  replace h := zq_nx2 (q := 125) h rfl
  refine ⟨zq_k_n 100 h rfl (zq_o_100 _), ?_⟩
  replace h := zq_nx1 (q := 126) h rfl
  refine ⟨zq_k_n 28 h rfl (zq_o_28 _), ?_⟩
  replace h := zq_nx1 (q := 127) h rfl
  exact zq_k_u1 21 (fun z => .iload z) 11 h rfl (zq_o_21 _) (by decide +kernel)
set_option maxRecDepth 100000 in
theorem dd_Tables_waysTo_129 : (decode prog_8_method_8_code 129 = .ok (.isub, 1)) ∧ (decode prog_8_method_8_code 130 = .ok (.iload_n 3, 1)) ∧ (decode prog_8_method_8_code 131 = .ok (.iload 12, 2)) ∧ (decode prog_8_method_8_code 133 = .ok (.isub, 1)) ∧ (decode prog_8_method_8_code 134 = .ok (.invokestatic 93, 3)) ∧ (decode prog_8_method_8_code 137 = .ok (.laload, 1)) ∧ (decode prog_8_method_8_code 138 = .ok (.ladd, 1)) ∧ (decode prog_8_method_8_code 139 = .ok (.lstore 8, 2)) ∧ (decode prog_8_method_8_code 141 = .ok (.iinc 11 1, 3)) ∧ (decode prog_8_method_8_code 144 = .ok (.goto (-70), 3)) ∧ (decode prog_8_method_8_code 147 = .ok (.iinc 10 1, 3)) ∧ (decode prog_8_method_8_code 150 = .ok (.goto (-94), 3)) ∧ (decode prog_8_method_8_code 153 = .ok (.lload 8, 2)) ∧ (decode prog_8_method_8_code 155 = .ok (.lreturn, 1)) := by
  have h : List.drop 129 prog_8_method_8_code.data.toList = 0x64 :: _ := rfl
  refine ⟨zq_k_n 100 h rfl (zq_o_100 _), ?_⟩
  replace h := zq_nx1 (q := 130) h rfl
  refine ⟨zq_k_n 29 h rfl (zq_o_29 _), ?_⟩
  replace h := zq_nx1 (q := 131) h rfl
  refine ⟨zq_k_u1 21 (fun z => .iload z) 12 h rfl (zq_o_21 _) (by decide +kernel), ?_⟩
  replace h := zq_nx2 (q := 133) h rfl
  refine ⟨zq_k_n 100 h rfl (zq_o_100 _), ?_⟩
  replace h := zq_nx1 (q := 134) h rfl
  refine ⟨zq_k_u2 184 (fun z => .invokestatic z) 93 h rfl (zq_o_184 _) (by decide +kernel), ?_⟩
  replace h := zq_nx3 (q := 137) h rfl
  refine ⟨zq_k_n 47 h rfl (zq_o_47 _), ?_⟩
  replace h := zq_nx1 (q := 138) h rfl
  refine ⟨zq_k_n 97 h rfl (zq_o_97 _), ?_⟩
  replace h := zq_nx1 (q := 139) h rfl
  refine ⟨zq_k_u1 55 (fun z => .lstore z) 8 h rfl (zq_o_55 _) (by decide +kernel), ?_⟩
  replace h := zq_nx2 (q := 141) h rfl
  refine ⟨zq_k_iinc 11 1 h rfl (zq_o_132 _) (by decide +kernel) (by decide +kernel), ?_⟩
  replace h := zq_nx3 (q := 144) h rfl
  refine ⟨zq_k_s2 167 (fun z => .goto z) (-70) h rfl (zq_o_167 _) (by decide +kernel), ?_⟩
  replace h := zq_nx3 (q := 147) h rfl
  refine ⟨zq_k_iinc 10 1 h rfl (zq_o_132 _) (by decide +kernel) (by decide +kernel), ?_⟩
  replace h := zq_nx3 (q := 150) h rfl
  refine ⟨zq_k_s2 167 (fun z => .goto z) (-94) h rfl (zq_o_167 _) (by decide +kernel), ?_⟩
  replace h := zq_nx3 (q := 153) h rfl
  refine ⟨zq_k_u1 22 (fun z => .lload z) 8 h rfl (zq_o_22 _) (by decide +kernel), ?_⟩
  replace h := zq_nx2 (q := 155) h rfl
  exact zq_k_n 173 h rfl (zq_o_173 _)
def f_Tables_waysTo_141 (rec56 : Nat → Int32 → Int32 → Int32 → Int32 → Int32 → Int32 → Int32 → Int64 → Int32 → mH → Option (Int64 × mH)) (rec74 : Nat → Int32 → Int32 → Int32 → Int32 → Int32 → Int32 → Int32 → Int64 → Int32 → Int32 → mH → Option (Int64 × mH)) (b0 : Nat) (b1 : Int32) (b2 : Int32) (b3 : Int32) (b4 : Int32) (b5 : Int32) (b6 : Int32) (b7 : Int32) (b8 : Int64) (b10 : Int32) (b11 : Int32) (h : mH) : Option (Int64 × mH) :=
  rec74 b0 b1 b2 b3 b4 b5 b6 b7 b8 b10 (b11 + (1 : Int32)) h
set_option maxRecDepth 20000 in
theorem t_Tables_waysTo_141 {sc : Nat × (Nat → Int32)} (rec56 : Nat → Int32 → Int32 → Int32 → Int32 → Int32 → Int32 → Int32 → Int64 → Int32 → mH → Option (Int64 × mH)) (hrec56 : ∀ (b0 : Nat) (b1 : Int32) (b2 : Int32) (b3 : Int32) (b4 : Int32) (b5 : Int32) (b6 : Int32) (b7 : Int32) (b8 : Int64) (b10 : Int32) (h : mH) (r : Int64) (h' : mH), rec56 b0 b1 b2 b3 b4 b5 b6 b7 b8 b10 h = some (r, h') → G sc y_Tables_waysTo prog_8_method_8_code 13 (some .long) 1 22 56 [(0, .ref b0), (1, .int b1), (2, .int b2), (3, .int b3), (4, .int b4), (5, .int b5), (6, .int b6), (7, .int b7), (8, .long b8), (10, .int b10)] [] h (some (.long r)) h') (rec74 : Nat → Int32 → Int32 → Int32 → Int32 → Int32 → Int32 → Int32 → Int64 → Int32 → Int32 → mH → Option (Int64 × mH)) (hrec74 : ∀ (b0 : Nat) (b1 : Int32) (b2 : Int32) (b3 : Int32) (b4 : Int32) (b5 : Int32) (b6 : Int32) (b7 : Int32) (b8 : Int64) (b10 : Int32) (b11 : Int32) (h : mH) (r : Int64) (h' : mH), rec74 b0 b1 b2 b3 b4 b5 b6 b7 b8 b10 b11 h = some (r, h') → G sc y_Tables_waysTo prog_8_method_8_code 13 (some .long) 1 22 74 [(0, .ref b0), (1, .int b1), (2, .int b2), (3, .int b3), (4, .int b4), (5, .int b5), (6, .int b6), (7, .int b7), (8, .long b8), (10, .int b10), (11, .int b11)] [] h (some (.long r)) h') (b0 : Nat) (b1 : Int32) (b2 : Int32) (b3 : Int32) (b4 : Int32) (b5 : Int32) (b6 : Int32) (b7 : Int32) (b8 : Int64) (b10 : Int32) (b11 : Int32) (h : mH) (r : Int64) (h' : mH) (hf : f_Tables_waysTo_141 rec56 rec74 b0 b1 b2 b3 b4 b5 b6 b7 b8 b10 b11 h = some (r, h')) : G sc y_Tables_waysTo prog_8_method_8_code 13 (some .long) 1 22 141 [(0, .ref b0), (1, .int b1), (2, .int b2), (3, .int b3), (4, .int b4), (5, .int b5), (6, .int b6), (7, .int b7), (8, .long b8), (10, .int b10), (11, .int b11)] [] h (some (.long r)) h' := by
  unfold f_Tables_waysTo_141 at hf
  refine g_iinc (pc := 141) 10 (b11 + (1 : Int32)) [(11, .int (b11 + (1 : Int32))), (0, .ref b0), (1, .int b1), (2, .int b2), (3, .int b3), (4, .int b4), (5, .int b5), (6, .int b6), (7, .int b7), (8, .long b8), (10, .int b10)] dd_Tables_waysTo_129.2.2.2.2.2.2.2.2.1 rfl rfl (Nat.le_of_ble_eq_true rfl) rfl ?_
  refine g_goto (pc := 144) 74 dd_Tables_waysTo_129.2.2.2.2.2.2.2.2.2.1 (by decide) ?_
  refine g_lv [1, 2, 3, 4, 5, 6, 7, 8, 9, 10, 0] rfl ?_
  exact hrec74 _ _ _ _ _ _ _ _ _ _ _ _ _ _  hf
def f_Tables_waysTo_74b (rec56 : Nat → Int32 → Int32 → Int32 → Int32 → Int32 → Int32 → Int32 → Int64 → Int32 → mH → Option (Int64 × mH)) (rec74 : Nat → Int32 → Int32 → Int32 → Int32 → Int32 → Int32 → Int32 → Int64 → Int32 → Int32 → mH → Option (Int64 × mH)) (b0 : Nat) (b1 : Int32) (b2 : Int32) (b3 : Int32) (b4 : Int32) (b5 : Int32) (b6 : Int32) (b7 : Int32) (b8 : Int64) (b10 : Int32) (b11 : Int32) (h : mH) : Option (Int64 × mH) :=
  if b6 < b11 then
    rec56 b0 b1 b2 b3 b4 b5 b6 b7 b8 (b10 + (1 : Int32)) h
  else
    bd1 (gR h b0 7 3) fun x22 =>
    bd1 (aI h 0 x22 b4) fun x24 =>
    bd1 (gR h b0 7 1) fun x26 =>
    bd1 (aI h 0 x26 ((10 : Int32) + b4)) fun x28 =>
    bd2 (f_Q_isWithin ((x24 - b10) - b11) x28 b7 h) fun x32 h30 =>
    if x32 = 0 then
      f_Tables_waysTo_141 rec56 rec74 b0 b1 b2 b3 b4 b5 b6 b7 b8 b10 b11 h30
    else
      bd1 (gR h30 b0 7 7) fun x33 =>
      bd2 (f_Tables_stateOf (b1 - b10) (b2 - b11) (b3 - ((x24 - b10) - b11)) h30) fun x37 h35 =>
      bd1 (aL h35 x33 x37) fun x38 =>
      f_Tables_waysTo_141 rec56 rec74 b0 b1 b2 b3 b4 b5 b6 b7 (b8 + x38) b10 b11 h35
set_option maxRecDepth 20000 in
theorem t_Tables_waysTo_74b {sc : Nat × (Nat → Int32)} (rec56 : Nat → Int32 → Int32 → Int32 → Int32 → Int32 → Int32 → Int32 → Int64 → Int32 → mH → Option (Int64 × mH)) (hrec56 : ∀ (b0 : Nat) (b1 : Int32) (b2 : Int32) (b3 : Int32) (b4 : Int32) (b5 : Int32) (b6 : Int32) (b7 : Int32) (b8 : Int64) (b10 : Int32) (h : mH) (r : Int64) (h' : mH), rec56 b0 b1 b2 b3 b4 b5 b6 b7 b8 b10 h = some (r, h') → G sc y_Tables_waysTo prog_8_method_8_code 13 (some .long) 1 22 56 [(0, .ref b0), (1, .int b1), (2, .int b2), (3, .int b3), (4, .int b4), (5, .int b5), (6, .int b6), (7, .int b7), (8, .long b8), (10, .int b10)] [] h (some (.long r)) h') (rec74 : Nat → Int32 → Int32 → Int32 → Int32 → Int32 → Int32 → Int32 → Int64 → Int32 → Int32 → mH → Option (Int64 × mH)) (hrec74 : ∀ (b0 : Nat) (b1 : Int32) (b2 : Int32) (b3 : Int32) (b4 : Int32) (b5 : Int32) (b6 : Int32) (b7 : Int32) (b8 : Int64) (b10 : Int32) (b11 : Int32) (h : mH) (r : Int64) (h' : mH), rec74 b0 b1 b2 b3 b4 b5 b6 b7 b8 b10 b11 h = some (r, h') → G sc y_Tables_waysTo prog_8_method_8_code 13 (some .long) 1 22 74 [(0, .ref b0), (1, .int b1), (2, .int b2), (3, .int b3), (4, .int b4), (5, .int b5), (6, .int b6), (7, .int b7), (8, .long b8), (10, .int b10), (11, .int b11)] [] h (some (.long r)) h') (b0 : Nat) (b1 : Int32) (b2 : Int32) (b3 : Int32) (b4 : Int32) (b5 : Int32) (b6 : Int32) (b7 : Int32) (b8 : Int64) (b10 : Int32) (b11 : Int32) (h : mH) (r : Int64) (h' : mH) (hf : f_Tables_waysTo_74b rec56 rec74 b0 b1 b2 b3 b4 b5 b6 b7 b8 b10 b11 h = some (r, h')) : G sc y_Tables_waysTo prog_8_method_8_code 13 (some .long) 1 22 74 [(0, .ref b0), (1, .int b1), (2, .int b2), (3, .int b3), (4, .int b4), (5, .int b5), (6, .int b6), (7, .int b7), (8, .long b8), (10, .int b10), (11, .int b11)] [] h (some (.long r)) h' := by
  unfold f_Tables_waysTo_74b at hf
  refine g_iload (pc := 74) 10 dd_Tables_waysTo_42.2.2.2.2.2.2.2.2.2.2.2.2.2.2.2.2.2.2.1 rfl ?_
  refine g_iload (pc := 76) 6 dd_Tables_waysTo_42.2.2.2.2.2.2.2.2.2.2.2.2.2.2.2.2.2.2.2.1 rfl ?_
  refine g_icmpgt (pc := 78) 147 dd_Tables_waysTo_42.2.2.2.2.2.2.2.2.2.2.2.2.2.2.2.2.2.2.2.2.1 (by decide) (fun c41 => ?_) (fun c41 => ?_)
  · replace hf := (if_pos c41).symm.trans hf
    refine g_iinc (pc := 147) 9 (b10 + (1 : Int32)) [(10, .int (b10 + (1 : Int32))), (0, .ref b0), (1, .int b1), (2, .int b2), (3, .int b3), (4, .int b4), (5, .int b5), (6, .int b6), (7, .int b7), (8, .long b8), (11, .int b11)] dd_Tables_waysTo_129.2.2.2.2.2.2.2.2.2.2.1 rfl rfl (Nat.le_of_ble_eq_true rfl) rfl ?_
    refine g_goto (pc := 150) 56 dd_Tables_waysTo_129.2.2.2.2.2.2.2.2.2.2.2.1 (by decide) ?_
    refine g_lv [1, 2, 3, 4, 5, 6, 7, 8, 9, 0] rfl ?_
    exact hrec56 _ _ _ _ _ _ _ _ _ _ _ _ _  hf
  · replace hf := (if_neg c41).symm.trans hf
    refine g_aload_n (pc := 81) 0 dd_Tables_waysTo_42.2.2.2.2.2.2.2.2.2.2.2.2.2.2.2.2.2.2.2.2.2.1 rfl rfl ?_
    obtain ⟨x22, e23, hf⟩ := bd1_e hf
    refine g_get (pc := 82) (ci := 7) (kk := 3) dd_Tables_waysTo_42.2.2.2.2.2.2.2.2.2.2.2.2.2.2.2.2.2.2.2.2.2.2.1 rfl in_Tables (by decide) wd_239 (gR_spec e23) ?_
    refine g_iload (pc := 85) 4 dd_Tables_waysTo_42.2.2.2.2.2.2.2.2.2.2.2.2.2.2.2.2.2.2.2.2.2.2.2 rfl ?_
    obtain ⟨x24, e25, hf⟩ := bd1_e hf
    refine g_iald (pc := 87) dd_Tables_waysTo_87.1 e25 ?_
    refine g_iload (pc := 88) 9 dd_Tables_waysTo_87.2.1 rfl ?_
    refine g_isub (pc := 90) dd_Tables_waysTo_87.2.2.1 ?_
    refine g_iload (pc := 91) 10 dd_Tables_waysTo_87.2.2.2.1 rfl ?_
    refine g_isub (pc := 93) dd_Tables_waysTo_87.2.2.2.2.1 ?_
    refine g_istore (pc := 94) [(12, .int ((x24 - b10) - b11)), (0, .ref b0), (1, .int b1), (2, .int b2), (3, .int b3), (4, .int b4), (5, .int b5), (6, .int b6), (7, .int b7), (8, .long b8), (10, .int b10), (11, .int b11)] dd_Tables_waysTo_87.2.2.2.2.2.1 (Nat.le_of_ble_eq_true rfl) rfl ?_
    refine g_iload (pc := 96) 0 dd_Tables_waysTo_87.2.2.2.2.2.2.1 rfl ?_
    refine g_aload_n (pc := 98) 1 dd_Tables_waysTo_87.2.2.2.2.2.2.2.1 rfl rfl ?_
    obtain ⟨x26, e27, hf⟩ := bd1_e hf
    refine g_get (pc := 99) (ci := 7) (kk := 1) dd_Tables_waysTo_87.2.2.2.2.2.2.2.2.1 rfl in_Tables (by decide) wd_237 (gR_spec e27) ?_
    refine g_bipush (pc := 102) (10 : Int32) dd_Tables_waysTo_87.2.2.2.2.2.2.2.2.2.1 (by decide) ?_
    refine g_iload (pc := 104) 5 dd_Tables_waysTo_87.2.2.2.2.2.2.2.2.2.2.1 rfl ?_
    refine g_iadd (pc := 106) dd_Tables_waysTo_87.2.2.2.2.2.2.2.2.2.2.2.1 ?_
    obtain ⟨x28, e29, hf⟩ := bd1_e hf
    refine g_iald (pc := 107) dd_Tables_waysTo_87.2.2.2.2.2.2.2.2.2.2.2.2.1 e29 ?_
    refine g_iload (pc := 108) 8 dd_Tables_waysTo_87.2.2.2.2.2.2.2.2.2.2.2.2.2.1 rfl ?_
    obtain ⟨x32, h30, e31, hf⟩ := bd2_e hf
    refine g_callSN (pc := 110) "QuotaLaws" [.int ((x24 - b10) - b11), .int x28, .int b7] (site_of si_Q_isWithin (by decide) (by decide)) wd_820 wd_332 dd_Tables_waysTo_87.2.2.2.2.2.2.2.2.2.2.2.2.2.2.1 (Nat.le_of_ble_eq_true rfl) (fun z => absurd z si_na_Q_isWithin) (fun z => absurd z si_na_Q_isWithin) (fun z => absurd z si_na_Q_isWithin) (c_Q_isWithin e31) rfl ?_
    refine g_st [.int x32] rfl ?_
    refine g_ifeq (pc := 113) 141 dd_Tables_waysTo_87.2.2.2.2.2.2.2.2.2.2.2.2.2.2.2.1 (by decide) (fun c40 => ?_) (fun c40 => ?_)
    · replace hf := (if_pos c40).symm.trans hf
      refine g_lv [1, 2, 3, 4, 5, 6, 7, 8, 9, 10, 11] rfl ?_
      exact t_Tables_waysTo_141 rec56 hrec56 rec74 hrec74 _ _ _ _ _ _ _ _ _ _ _ _ _ _  hf
    · replace hf := (if_neg c40).symm.trans hf
      refine g_lload (pc := 116) 9 dd_Tables_waysTo_87.2.2.2.2.2.2.2.2.2.2.2.2.2.2.2.2.1 rfl ?_
      refine g_aload_n (pc := 118) 1 dd_Tables_waysTo_87.2.2.2.2.2.2.2.2.2.2.2.2.2.2.2.2.2.1 rfl rfl ?_
      obtain ⟨x33, e34, hf⟩ := bd1_e hf
      refine g_get (pc := 119) (ci := 7) (kk := 7) dd_Tables_waysTo_87.2.2.2.2.2.2.2.2.2.2.2.2.2.2.2.2.2.2.1 rfl in_Tables (by decide) wd_243 (gR_spec e34) ?_
      refine g_iload_n (pc := 122) 2 dd_Tables_waysTo_87.2.2.2.2.2.2.2.2.2.2.2.2.2.2.2.2.2.2.2.1 rfl rfl ?_
      refine g_iload (pc := 123) 10 dd_Tables_waysTo_87.2.2.2.2.2.2.2.2.2.2.2.2.2.2.2.2.2.2.2.2.1 rfl ?_
      refine g_isub (pc := 125) dd_Tables_waysTo_87.2.2.2.2.2.2.2.2.2.2.2.2.2.2.2.2.2.2.2.2.2.1 ?_
      refine g_iload_n (pc := 126) 3 dd_Tables_waysTo_87.2.2.2.2.2.2.2.2.2.2.2.2.2.2.2.2.2.2.2.2.2.2.1 rfl rfl ?_
      refine g_iload (pc := 127) 11 dd_Tables_waysTo_87.2.2.2.2.2.2.2.2.2.2.2.2.2.2.2.2.2.2.2.2.2.2.2 rfl ?_
      refine g_isub (pc := 129) dd_Tables_waysTo_129.1 ?_
      refine g_iload_n (pc := 130) 4 dd_Tables_waysTo_129.2.1 rfl rfl ?_
      refine g_iload (pc := 131) 0 dd_Tables_waysTo_129.2.2.1 rfl ?_
      refine g_isub (pc := 133) dd_Tables_waysTo_129.2.2.2.1 ?_
      obtain ⟨x37, h35, e36, hf⟩ := bd2_e hf
      refine g_callS (pc := 134) [.int (b1 - b10), .int (b2 - b11), .int (b3 - ((x24 - b10) - b11))] (site_of si_Tables_stateOf (by decide) (by decide)) wd_808 wd_809 dd_Tables_waysTo_129.2.2.2.2.1 (Nat.le_of_ble_eq_true rfl) (fun z => absurd z si_na_Tables_stateOf) (fun z => absurd z si_na_Tables_stateOf) (fun z => absurd z si_na_Tables_stateOf) (c_Tables_stateOf e36) rfl ?_
      refine g_st [.int x37, .ref x33, .long b8] rfl ?_
      obtain ⟨x38, e39, hf⟩ := bd1_e hf
      refine g_lald (pc := 137) dd_Tables_waysTo_129.2.2.2.2.2.1 e39 ?_
      refine g_ladd (pc := 138) dd_Tables_waysTo_129.2.2.2.2.2.2.1 ?_
      refine g_lstore (pc := 139) [(8, .long (b8 + x38)), (12, .int ((x24 - b10) - b11)), (0, .ref b0), (1, .int b1), (2, .int b2), (3, .int b3), (4, .int b4), (5, .int b5), (6, .int b6), (7, .int b7), (10, .int b10), (11, .int b11)] dd_Tables_waysTo_129.2.2.2.2.2.2.2.1 (Nat.le_of_ble_eq_true rfl) rfl ?_
      refine g_lv [2, 3, 4, 5, 6, 7, 8, 9, 0, 10, 11] rfl ?_
      exact t_Tables_waysTo_141 rec56 hrec56 rec74 hrec74 _ _ _ _ _ _ _ _ _ _ _ _ _ _  hf
def f_Tables_waysTo_74 (rec56 : Nat → Int32 → Int32 → Int32 → Int32 → Int32 → Int32 → Int32 → Int64 → Int32 → mH → Option (Int64 × mH)) : Nat → Nat → Int32 → Int32 → Int32 → Int32 → Int32 → Int32 → Int32 → Int64 → Int32 → Int32 → mH → Option (Int64 × mH)
  | 0 => fun _ _ _ _ _ _ _ _ _ _ _ _ => none
  | n + 1 => f_Tables_waysTo_74b rec56 (f_Tables_waysTo_74 rec56 n)
theorem t_Tables_waysTo_74 {sc : Nat × (Nat → Int32)} (rec56 : Nat → Int32 → Int32 → Int32 → Int32 → Int32 → Int32 → Int32 → Int64 → Int32 → mH → Option (Int64 × mH)) (hrec56 : ∀ (b0 : Nat) (b1 : Int32) (b2 : Int32) (b3 : Int32) (b4 : Int32) (b5 : Int32) (b6 : Int32) (b7 : Int32) (b8 : Int64) (b10 : Int32) (h : mH) (r : Int64) (h' : mH), rec56 b0 b1 b2 b3 b4 b5 b6 b7 b8 b10 h = some (r, h') → G sc y_Tables_waysTo prog_8_method_8_code 13 (some .long) 1 22 56 [(0, .ref b0), (1, .int b1), (2, .int b2), (3, .int b3), (4, .int b4), (5, .int b5), (6, .int b6), (7, .int b7), (8, .long b8), (10, .int b10)] [] h (some (.long r)) h') : ∀ (n : Nat) (b0 : Nat) (b1 : Int32) (b2 : Int32) (b3 : Int32) (b4 : Int32) (b5 : Int32) (b6 : Int32) (b7 : Int32) (b8 : Int64) (b10 : Int32) (b11 : Int32) (h : mH) (r : Int64) (h' : mH) (hf : f_Tables_waysTo_74 rec56 n b0 b1 b2 b3 b4 b5 b6 b7 b8 b10 b11 h = some (r, h')), G sc y_Tables_waysTo prog_8_method_8_code 13 (some .long) 1 22 74 [(0, .ref b0), (1, .int b1), (2, .int b2), (3, .int b3), (4, .int b4), (5, .int b5), (6, .int b6), (7, .int b7), (8, .long b8), (10, .int b10), (11, .int b11)] [] h (some (.long r)) h'
  | 0, _, _, _, _, _, _, _, _, _, _, _, _, _, _, hf => by cases hf
  | n + 1, _, _, _, _, _, _, _, _, _, _, _, _, _, _, hf => t_Tables_waysTo_74b rec56 hrec56 (f_Tables_waysTo_74 rec56 n) (t_Tables_waysTo_74 rec56 hrec56 n) _ _ _ _ _ _ _ _ _ _ _ _ _ _ hf
def f_Tables_waysTo_56b (rec56 : Nat → Int32 → Int32 → Int32 → Int32 → Int32 → Int32 → Int32 → Int64 → Int32 → mH → Option (Int64 × mH)) (b0 : Nat) (b1 : Int32) (b2 : Int32) (b3 : Int32) (b4 : Int32) (b5 : Int32) (b6 : Int32) (b7 : Int32) (b8 : Int64) (b10 : Int32) (h : mH) : Option (Int64 × mH) :=
  if b5 < b10 then
    some (b8, h)
  else
    bd1 (gR h b0 7 1) fun x17 =>
    bd1 (aI h 0 x17 ((5 : Int32) + b4)) fun x19 =>
    f_Tables_waysTo_74 rec56 FU b0 b1 b2 b3 b4 b5 b6 b7 b8 b10 x19 h
set_option maxRecDepth 20000 in
theorem t_Tables_waysTo_56b {sc : Nat × (Nat → Int32)} (rec56 : Nat → Int32 → Int32 → Int32 → Int32 → Int32 → Int32 → Int32 → Int64 → Int32 → mH → Option (Int64 × mH)) (hrec56 : ∀ (b0 : Nat) (b1 : Int32) (b2 : Int32) (b3 : Int32) (b4 : Int32) (b5 : Int32) (b6 : Int32) (b7 : Int32) (b8 : Int64) (b10 : Int32) (h : mH) (r : Int64) (h' : mH), rec56 b0 b1 b2 b3 b4 b5 b6 b7 b8 b10 h = some (r, h') → G sc y_Tables_waysTo prog_8_method_8_code 13 (some .long) 1 22 56 [(0, .ref b0), (1, .int b1), (2, .int b2), (3, .int b3), (4, .int b4), (5, .int b5), (6, .int b6), (7, .int b7), (8, .long b8), (10, .int b10)] [] h (some (.long r)) h') (b0 : Nat) (b1 : Int32) (b2 : Int32) (b3 : Int32) (b4 : Int32) (b5 : Int32) (b6 : Int32) (b7 : Int32) (b8 : Int64) (b10 : Int32) (h : mH) (r : Int64) (h' : mH) (hf : f_Tables_waysTo_56b rec56 b0 b1 b2 b3 b4 b5 b6 b7 b8 b10 h = some (r, h')) : G sc y_Tables_waysTo prog_8_method_8_code 13 (some .long) 1 22 56 [(0, .ref b0), (1, .int b1), (2, .int b2), (3, .int b3), (4, .int b4), (5, .int b5), (6, .int b6), (7, .int b7), (8, .long b8), (10, .int b10)] [] h (some (.long r)) h' := by
  unfold f_Tables_waysTo_56b at hf
  refine g_iload (pc := 56) 9 dd_Tables_waysTo_42.2.2.2.2.2.2.2.2.1 rfl ?_
  refine g_iload (pc := 58) 5 dd_Tables_waysTo_42.2.2.2.2.2.2.2.2.2.1 rfl ?_
  refine g_icmpgt (pc := 60) 153 dd_Tables_waysTo_42.2.2.2.2.2.2.2.2.2.2.1 (by decide) (fun c21 => ?_) (fun c21 => ?_)
  · replace hf := (if_pos c21).symm.trans hf
    refine g_lload (pc := 153) 8 dd_Tables_waysTo_129.2.2.2.2.2.2.2.2.2.2.2.2.1 rfl ?_
    obtain ⟨rfl, rfl⟩ := ret2 hf
    exact g_lret (pc := 155) rfl dd_Tables_waysTo_129.2.2.2.2.2.2.2.2.2.2.2.2.2
  · replace hf := (if_neg c21).symm.trans hf
    refine g_aload_n (pc := 63) 0 dd_Tables_waysTo_42.2.2.2.2.2.2.2.2.2.2.2.1 rfl rfl ?_
    obtain ⟨x17, e18, hf⟩ := bd1_e hf
    refine g_get (pc := 64) (ci := 7) (kk := 1) dd_Tables_waysTo_42.2.2.2.2.2.2.2.2.2.2.2.2.1 rfl in_Tables (by decide) wd_237 (gR_spec e18) ?_
    refine g_iconst (pc := 67) (5 : Int32) dd_Tables_waysTo_42.2.2.2.2.2.2.2.2.2.2.2.2.2.1 (by decide) ?_
    refine g_iload (pc := 68) 4 dd_Tables_waysTo_42.2.2.2.2.2.2.2.2.2.2.2.2.2.2.1 rfl ?_
    refine g_iadd (pc := 70) dd_Tables_waysTo_42.2.2.2.2.2.2.2.2.2.2.2.2.2.2.2.1 ?_
    obtain ⟨x19, e20, hf⟩ := bd1_e hf
    refine g_iald (pc := 71) dd_Tables_waysTo_42.2.2.2.2.2.2.2.2.2.2.2.2.2.2.2.2.1 e20 ?_
    refine g_istore (pc := 72) [(11, .int x19), (0, .ref b0), (1, .int b1), (2, .int b2), (3, .int b3), (4, .int b4), (5, .int b5), (6, .int b6), (7, .int b7), (8, .long b8), (10, .int b10)] dd_Tables_waysTo_42.2.2.2.2.2.2.2.2.2.2.2.2.2.2.2.2.2.1 (Nat.le_of_ble_eq_true rfl) rfl ?_
    refine g_lv [1, 2, 3, 4, 5, 6, 7, 8, 9, 10, 0] rfl ?_
    exact t_Tables_waysTo_74 rec56 hrec56 FU _ _ _ _ _ _ _ _ _ _ _ _ _ _  hf
def f_Tables_waysTo_56  : Nat → Nat → Int32 → Int32 → Int32 → Int32 → Int32 → Int32 → Int32 → Int64 → Int32 → mH → Option (Int64 × mH)
  | 0 => fun _ _ _ _ _ _ _ _ _ _ _ => none
  | n + 1 => f_Tables_waysTo_56b  (f_Tables_waysTo_56  n)
theorem t_Tables_waysTo_56 {sc : Nat × (Nat → Int32)}  : ∀ (n : Nat) (b0 : Nat) (b1 : Int32) (b2 : Int32) (b3 : Int32) (b4 : Int32) (b5 : Int32) (b6 : Int32) (b7 : Int32) (b8 : Int64) (b10 : Int32) (h : mH) (r : Int64) (h' : mH) (hf : f_Tables_waysTo_56  n b0 b1 b2 b3 b4 b5 b6 b7 b8 b10 h = some (r, h')), G sc y_Tables_waysTo prog_8_method_8_code 13 (some .long) 1 22 56 [(0, .ref b0), (1, .int b1), (2, .int b2), (3, .int b3), (4, .int b4), (5, .int b5), (6, .int b6), (7, .int b7), (8, .long b8), (10, .int b10)] [] h (some (.long r)) h'
  | 0, _, _, _, _, _, _, _, _, _, _, _, _, _, hf => by cases hf
  | n + 1, _, _, _, _, _, _, _, _, _, _, _, _, _, hf => t_Tables_waysTo_56b  (f_Tables_waysTo_56  n) (t_Tables_waysTo_56  n) _ _ _ _ _ _ _ _ _ _ _ _ _ hf
def f_Tables_waysTo_0  (a0 : Nat) (a1 : Int32) (a2 : Int32) (a3 : Int32) (a4 : Int32) (h : mH) : Option (Int64 × mH) :=
  bd1 (gR h a0 7 2) fun x1 =>
  bd1 (aI h 0 x1 a4) fun x3 =>
  bd1 (gR h a0 7 2) fun x5 =>
  bd1 (aI h 0 x5 ((5 : Int32) + a4)) fun x7 =>
  bd1 (gR h a0 7 2) fun x9 =>
  bd1 (aI h 0 x9 ((10 : Int32) + a4)) fun x11 =>
  bd1 (gR h a0 7 1) fun x13 =>
  bd1 (aI h 0 x13 a4) fun x15 =>
  f_Tables_waysTo_56  FU a0 a1 a2 a3 a4 (if a1 < x3 then a1 else x3) (if a2 < x7 then a2 else x7) (if a3 < x11 then a3 else x11) (0 : Int64) x15 h
set_option maxRecDepth 20000 in
theorem t_Tables_waysTo_0 {sc : Nat × (Nat → Int32)}  (a0 : Nat) (a1 : Int32) (a2 : Int32) (a3 : Int32) (a4 : Int32) (h : mH) (r : Int64) (h' : mH) (hf : f_Tables_waysTo_0  a0 a1 a2 a3 a4 h = some (r, h')) : G sc y_Tables_waysTo prog_8_method_8_code 13 (some .long) 1 22 0 [(0, .ref a0), (1, .int a1), (2, .int a2), (3, .int a3), (4, .int a4)] [] h (some (.long r)) h' := by
  unfold f_Tables_waysTo_0 at hf
  refine g_aload_n (pc := 0) 0 dd_Tables_waysTo_0.1 rfl rfl ?_
  obtain ⟨x1, e2, hf⟩ := bd1_e hf
  refine g_get (pc := 1) (ci := 7) (kk := 2) dd_Tables_waysTo_0.2.1 rfl in_Tables (by decide) wd_238 (gR_spec e2) ?_
  refine g_iload (pc := 4) 4 dd_Tables_waysTo_0.2.2.1 rfl ?_
  obtain ⟨x3, e4, hf⟩ := bd1_e hf
  refine g_iald (pc := 6) dd_Tables_waysTo_0.2.2.2.1 e4 ?_
  refine g_iload_n (pc := 7) 1 dd_Tables_waysTo_0.2.2.2.2.1 rfl rfl ?_
  refine g_mmin (pc := 8) dd_Tables_waysTo_0.2.2.2.2.2.1 wd_819 wd_564 wd_16 wd_565 (by decide) (Nat.le_of_ble_eq_true rfl) ?_
  refine g_istore (pc := 11) [(5, .int (if a1 < x3 then a1 else x3)), (0, .ref a0), (1, .int a1), (2, .int a2), (3, .int a3), (4, .int a4)] dd_Tables_waysTo_0.2.2.2.2.2.2.1 (Nat.le_of_ble_eq_true rfl) rfl ?_
  refine g_aload_n (pc := 13) 1 dd_Tables_waysTo_0.2.2.2.2.2.2.2.1 rfl rfl ?_
  obtain ⟨x5, e6, hf⟩ := bd1_e hf
  refine g_get (pc := 14) (ci := 7) (kk := 2) dd_Tables_waysTo_0.2.2.2.2.2.2.2.2.1 rfl in_Tables (by decide) wd_238 (gR_spec e6) ?_
  refine g_iconst (pc := 17) (5 : Int32) dd_Tables_waysTo_0.2.2.2.2.2.2.2.2.2.1 (by decide) ?_
  refine g_iload (pc := 18) 5 dd_Tables_waysTo_0.2.2.2.2.2.2.2.2.2.2.1 rfl ?_
  refine g_iadd (pc := 20) dd_Tables_waysTo_0.2.2.2.2.2.2.2.2.2.2.2.1 ?_
  obtain ⟨x7, e8, hf⟩ := bd1_e hf
  refine g_iald (pc := 21) dd_Tables_waysTo_0.2.2.2.2.2.2.2.2.2.2.2.2.1 e8 ?_
  refine g_iload_n (pc := 22) 3 dd_Tables_waysTo_0.2.2.2.2.2.2.2.2.2.2.2.2.2.1 rfl rfl ?_
  refine g_mmin (pc := 23) dd_Tables_waysTo_0.2.2.2.2.2.2.2.2.2.2.2.2.2.2.1 wd_819 wd_564 wd_16 wd_565 (by decide) (Nat.le_of_ble_eq_true rfl) ?_
  refine g_istore (pc := 26) [(6, .int (if a2 < x7 then a2 else x7)), (5, .int (if a1 < x3 then a1 else x3)), (0, .ref a0), (1, .int a1), (2, .int a2), (3, .int a3), (4, .int a4)] dd_Tables_waysTo_0.2.2.2.2.2.2.2.2.2.2.2.2.2.2.2.1 (Nat.le_of_ble_eq_true rfl) rfl ?_
  refine g_aload_n (pc := 28) 2 dd_Tables_waysTo_0.2.2.2.2.2.2.2.2.2.2.2.2.2.2.2.2.1 rfl rfl ?_
  obtain ⟨x9, e10, hf⟩ := bd1_e hf
  refine g_get (pc := 29) (ci := 7) (kk := 2) dd_Tables_waysTo_0.2.2.2.2.2.2.2.2.2.2.2.2.2.2.2.2.2.1 rfl in_Tables (by decide) wd_238 (gR_spec e10) ?_
  refine g_bipush (pc := 32) (10 : Int32) dd_Tables_waysTo_0.2.2.2.2.2.2.2.2.2.2.2.2.2.2.2.2.2.2.1 (by decide) ?_
  refine g_iload (pc := 34) 6 dd_Tables_waysTo_0.2.2.2.2.2.2.2.2.2.2.2.2.2.2.2.2.2.2.2.1 rfl ?_
  refine g_iadd (pc := 36) dd_Tables_waysTo_0.2.2.2.2.2.2.2.2.2.2.2.2.2.2.2.2.2.2.2.2.1 ?_
  obtain ⟨x11, e12, hf⟩ := bd1_e hf
  refine g_iald (pc := 37) dd_Tables_waysTo_0.2.2.2.2.2.2.2.2.2.2.2.2.2.2.2.2.2.2.2.2.2.1 e12 ?_
  refine g_iload_n (pc := 38) 5 dd_Tables_waysTo_0.2.2.2.2.2.2.2.2.2.2.2.2.2.2.2.2.2.2.2.2.2.2.1 rfl rfl ?_
  refine g_mmin (pc := 39) dd_Tables_waysTo_0.2.2.2.2.2.2.2.2.2.2.2.2.2.2.2.2.2.2.2.2.2.2.2 wd_819 wd_564 wd_16 wd_565 (by decide) (Nat.le_of_ble_eq_true rfl) ?_
  refine g_istore (pc := 42) [(7, .int (if a3 < x11 then a3 else x11)), (6, .int (if a2 < x7 then a2 else x7)), (5, .int (if a1 < x3 then a1 else x3)), (0, .ref a0), (1, .int a1), (2, .int a2), (3, .int a3), (4, .int a4)] dd_Tables_waysTo_42.1 (Nat.le_of_ble_eq_true rfl) rfl ?_
  refine g_lconst (pc := 44) (0 : Int64) dd_Tables_waysTo_42.2.1 (by decide) ?_
  refine g_lstore (pc := 45) [(8, .long (0 : Int64)), (7, .int (if a3 < x11 then a3 else x11)), (6, .int (if a2 < x7 then a2 else x7)), (5, .int (if a1 < x3 then a1 else x3)), (0, .ref a0), (1, .int a1), (2, .int a2), (3, .int a3), (4, .int a4)] dd_Tables_waysTo_42.2.2.1 (Nat.le_of_ble_eq_true rfl) rfl ?_
  refine g_aload_n (pc := 47) 4 dd_Tables_waysTo_42.2.2.2.1 rfl rfl ?_
  obtain ⟨x13, e14, hf⟩ := bd1_e hf
  refine g_get (pc := 48) (ci := 7) (kk := 1) dd_Tables_waysTo_42.2.2.2.2.1 rfl in_Tables (by decide) wd_237 (gR_spec e14) ?_
  refine g_iload (pc := 51) 8 dd_Tables_waysTo_42.2.2.2.2.2.1 rfl ?_
  obtain ⟨x15, e16, hf⟩ := bd1_e hf
  refine g_iald (pc := 53) dd_Tables_waysTo_42.2.2.2.2.2.2.1 e16 ?_
  refine g_istore (pc := 54) [(10, .int x15), (8, .long (0 : Int64)), (7, .int (if a3 < x11 then a3 else x11)), (6, .int (if a2 < x7 then a2 else x7)), (5, .int (if a1 < x3 then a1 else x3)), (0, .ref a0), (1, .int a1), (2, .int a2), (3, .int a3), (4, .int a4)] dd_Tables_waysTo_42.2.2.2.2.2.2.2.1 (Nat.le_of_ble_eq_true rfl) rfl ?_
  refine g_lv [5, 6, 7, 8, 9, 4, 3, 2, 1, 0] rfl ?_
  exact t_Tables_waysTo_56  FU _ _ _ _ _ _ _ _ _ _ _ _ _  hf
def f_Tables_waysTo (a0 : Nat) (a1 : Int32) (a2 : Int32) (a3 : Int32) (a4 : Int32) (h : mH) : Option (Int64 × mH) := f_Tables_waysTo_0 a0 a1 a2 a3 a4 h
theorem c_Tables_waysTo {sc : Nat × (Nat → Int32)} {a0 : Nat} {a1 : Int32} {a2 : Int32} {a3 : Int32} {a4 : Int32} {h : mH} {r : Int64} {h' : mH} (hf : f_Tables_waysTo a0 a1 a2 a3 a4 h = some (r, h')) : MM sc y_Tables_waysTo prog_8_method_8_code 13 (some .long) 1 22 [.ref a0, .int a1, .int a2, .int a3, .int a4] h (some (.long r)) h' :=
  mm_of_G si_pn_Tables (Nat.le_of_ble_eq_true rfl) (t_Tables_waysTo_0 _ _ _ _ _ _ _ _ hf)
/-! Tables spendTogether (I)V -/
set_option maxRecDepth 100000 in
theorem dd_Tables_spendTogether_0 : (decode prog_8_method_7_code 0 = .ok (.aload_n 0, 1)) ∧ (decode prog_8_method_7_code 1 = .ok (.getfield 24, 3)) ∧ (decode prog_8_method_7_code 4 = .ok (.iconst 0, 1)) ∧ (decode prog_8_method_7_code 5 = .ok (.iaload, 1)) ∧ (decode prog_8_method_7_code 6 = .ok (.istore_n 2, 1)) ∧ (decode prog_8_method_7_code 7 = .ok (.iload_n 2, 1)) ∧ (decode prog_8_method_7_code 8 = .ok (.ifCond .lt 66, 3)) ∧ (decode prog_8_method_7_code 11 = .ok (.aload_n 0, 1)) ∧ (decode prog_8_method_7_code 12 = .ok (.getfield 24, 3)) ∧ (decode prog_8_method_7_code 15 = .ok (.iconst 1, 1)) ∧ (decode prog_8_method_7_code 16 = .ok (.iaload, 1)) ∧ (decode prog_8_method_7_code 17 = .ok (.istore_n 3, 1)) ∧ (decode prog_8_method_7_code 18 = .ok (.iload_n 3, 1)) ∧ (decode prog_8_method_7_code 19 = .ok (.ifCond .lt 49, 3)) ∧ (decode prog_8_method_7_code 22 = .ok (.aload_n 0, 1)) ∧ (decode prog_8_method_7_code 23 = .ok (.getfield 24, 3)) ∧ (decode prog_8_method_7_code 26 = .ok (.iconst 2, 1)) ∧ (decode prog_8_method_7_code 27 = .ok (.iaload, 1)) ∧ (decode prog_8_method_7_code 28 = .ok (.istore 4, 2)) ∧ (decode prog_8_method_7_code 30 = .ok (.iload 4, 2)) ∧ (decode prog_8_method_7_code 32 = .ok (.ifCond .lt 30, 3)) ∧ (decode prog_8_method_7_code 35 = .ok (.aload_n 0, 1)) ∧ (decode prog_8_method_7_code 36 = .ok (.getfield 31, 3)) ∧ (decode prog_8_method_7_code 39 = .ok (.iload_n 2, 1)) := by
  have h : List.drop 0 prog_8_method_7_code.data.toList = 0x2a :: _ := rfl
  refine ⟨zq_k_n 42 h rfl (zq_o_42 _), ?_⟩
  replace h := zq_nx1 (q := 1) h rfl
  refine ⟨zq_k_u2 180 (fun z => .getfield z) 24 h rfl (zq_o_180 _) (by decide +kernel), ?_⟩
  replace h := zq_nx3 (q := 4) h rfl
  refine ⟨zq_k_n 3 h rfl (zq_o_3 _), ?_⟩
  replace h := zq_nx1 (q := 5) h rfl
  refine ⟨zq_k_n 46 h rfl (zq_o_46 _), ?_⟩
  replace h := zq_nx1 (q := 6) h rfl
  refine ⟨zq_k_n 61 h rfl (zq_o_61 _), ?_⟩
  replace h := zq_nx1 (q := 7) h rfl
  refine ⟨zq_k_n 28 h rfl (zq_o_28 _), ?_⟩
  replace h := zq_nx1 (q := 8) h rfl
  refine ⟨zq_k_s2 155 (fun z => .ifCond .lt z) 66 h rfl (zq_o_155 _) (by decide +kernel), ?_⟩
  replace h := zq_nx3 (q := 11) h rfl
  refine ⟨zq_k_n 42 h rfl (zq_o_42 _), ?_⟩
  replace h := zq_nx1 (q := 12) h rfl
  refine ⟨zq_k_u2 180 (fun z => .getfield z) 24 h rfl (zq_o_180 _) (by decide +kernel), ?_⟩
  replace h := zq_nx3 (q := 15) h rfl
  refine ⟨zq_k_n 4 h rfl (zq_o_4 _), ?_⟩
  replace h := zq_nx1 (q := 16) h rfl
  refine ⟨zq_k_n 46 h rfl (zq_o_46 _), ?_⟩
  replace h := zq_nx1 (q := 17) h rfl
  refine ⟨zq_k_n 62 h rfl (zq_o_62 _), ?_⟩
  replace h := zq_nx1 (q := 18) h rfl
  refine ⟨zq_k_n 29 h rfl (zq_o_29 _), ?_⟩
  replace h := zq_nx1 (q := 19) h rfl
  refine ⟨zq_k_s2 155 (fun z => .ifCond .lt z) 49 h rfl (zq_o_155 _) (by decide +kernel), ?_⟩
  replace h := zq_nx3 (q := 22) h rfl
  refine ⟨zq_k_n 42 h rfl (zq_o_42 _), ?_⟩
  replace h := zq_nx1 (q := 23) h rfl
  refine ⟨zq_k_u2 180 (fun z => .getfield z) 24 h rfl (zq_o_180 _) (by decide +kernel), ?_⟩
  replace h := zq_nx3 (q := 26) h rfl
  refine ⟨zq_k_n 5 h rfl (zq_o_5 _), ?_⟩
  replace h := zq_nx1 (q := 27) h rfl
  refine ⟨zq_k_n 46 h rfl (zq_o_46 _), ?_⟩
  replace h := zq_nx1 (q := 28) h rfl
  refine ⟨zq_k_u1 54 (fun z => .istore z) 4 h rfl (zq_o_54 _) (by decide +kernel), ?_⟩
  replace h := zq_nx2 (q := 30) h rfl
  refine ⟨zq_k_u1 21 (fun z => .iload z) 4 h rfl (zq_o_21 _) (by decide +kernel), ?_⟩
  replace h := zq_nx2 (q := 32) h rfl
  refine ⟨zq_k_s2 155 (fun z => .ifCond .lt z) 30 h rfl (zq_o_155 _) (by decide +kernel), ?_⟩
  replace h := zq_nx3 (q := 35) h rfl
  refine ⟨zq_k_n 42 h rfl (zq_o_42 _), ?_⟩
  replace h := zq_nx1 (q := 36) h rfl
  refine ⟨zq_k_u2 180 (fun z => .getfield z) 31 h rfl (zq_o_180 _) (by decide +kernel), ?_⟩
  replace h := zq_nx3 (q := 39) h rfl
  exact zq_k_n 28 h rfl (zq_o_28 _)
set_option maxRecDepth 100000 in
theorem dd_Tables_spendTogether_40 : (decode prog_8_method_7_code 40 = .ok (.iload_n 3, 1)) ∧ (decode prog_8_method_7_code 41 = .ok (.iload 4, 2)) ∧ (decode prog_8_method_7_code 43 = .ok (.invokestatic 93, 3)) ∧ (decode prog_8_method_7_code 46 = .ok (.aload_n 0, 1)) ∧ (decode prog_8_method_7_code 47 = .ok (.iload_n 2, 1)) ∧ (decode prog_8_method_7_code 48 = .ok (.iload_n 3, 1)) ∧ (decode prog_8_method_7_code 49 = .ok (.iload 4, 2)) ∧ (decode prog_8_method_7_code 51 = .ok (.iload_n 1, 1)) ∧ (decode prog_8_method_7_code 52 = .ok (.invokevirtual 97, 3)) ∧ (decode prog_8_method_7_code 55 = .ok (.lastore, 1)) ∧ (decode prog_8_method_7_code 56 = .ok (.iinc 4 (-1), 3)) ∧ (decode prog_8_method_7_code 59 = .ok (.goto (-29), 3)) ∧ (decode prog_8_method_7_code 62 = .ok (.iinc 3 (-1), 3)) ∧ (decode prog_8_method_7_code 65 = .ok (.goto (-47), 3)) ∧ (decode prog_8_method_7_code 68 = .ok (.iinc 2 (-1), 3)) ∧ (decode prog_8_method_7_code 71 = .ok (.goto (-64), 3)) ∧ (decode prog_8_method_7_code 74 = .ok (.return_, 1)) := by
  have h : List.drop 40 prog_8_method_7_code.data.toList = 0x1d :: _ := rfl
  refine ⟨zq_k_n 29 h rfl (zq_o_29 _), ?_⟩
  replace h := zq_nx1 (q := 41) h rfl
  refine ⟨zq_k_u1 21 (fun z => .iload z) 4 h rfl (zq_o_21 _) (by decide +kernel), ?_⟩
  replace h := zq_nx2 (q := 43) h rfl
  refine ⟨zq_k_u2 184 (fun z => .invokestatic z) 93 h rfl (zq_o_184 _) (by decide +kernel), ?_⟩
  replace h := zq_nx3 (q := 46) h rfl
  refine ⟨zq_k_n 42 h rfl (zq_o_42 _), ?_⟩
  replace h := zq_nx1 (q := 47) h rfl
  refine ⟨zq_k_n 28 h rfl (zq_o_28 _), ?_⟩
  replace h := zq_nx1 (q := 48) h rfl
  refine ⟨zq_k_n 29 h rfl (zq_o_29 _), ?_⟩
  replace h := zq_nx1 (q := 49) h rfl
  refine ⟨zq_k_u1 21 (fun z => .iload z) 4 h rfl (zq_o_21 _) (by decide +kernel), ?_⟩
  replace h := zq_nx2 (q := 51) h rfl
  refine ⟨zq_k_n 27 h rfl (zq_o_27 _), ?_⟩
  replace h := zq_nx1 (q := 52) h rfl
  refine ⟨zq_k_u2 182 (fun z => .invokevirtual z) 97 h rfl (zq_o_182 _) (by decide +kernel), ?_⟩
  replace h := zq_nx3 (q := 55) h rfl
  refine ⟨zq_k_n 80 h rfl (zq_o_80 _), ?_⟩
  replace h := zq_nx1 (q := 56) h rfl
  refine ⟨zq_k_iinc 4 (-1) h rfl (zq_o_132 _) (by decide +kernel) (by decide +kernel), ?_⟩
  replace h := zq_nx3 (q := 59) h rfl
  refine ⟨zq_k_s2 167 (fun z => .goto z) (-29) h rfl (zq_o_167 _) (by decide +kernel), ?_⟩
  replace h := zq_nx3 (q := 62) h rfl
  refine ⟨zq_k_iinc 3 (-1) h rfl (zq_o_132 _) (by decide +kernel) (by decide +kernel), ?_⟩
  replace h := zq_nx3 (q := 65) h rfl
  refine ⟨zq_k_s2 167 (fun z => .goto z) (-47) h rfl (zq_o_167 _) (by decide +kernel), ?_⟩
  replace h := zq_nx3 (q := 68) h rfl
  refine ⟨zq_k_iinc 2 (-1) h rfl (zq_o_132 _) (by decide +kernel) (by decide +kernel), ?_⟩
  replace h := zq_nx3 (q := 71) h rfl
  refine ⟨zq_k_s2 167 (fun z => .goto z) (-64) h rfl (zq_o_167 _) (by decide +kernel), ?_⟩
  replace h := zq_nx3 (q := 74) h rfl
  exact zq_k_n 177 h rfl (zq_o_177 _)
def f_Tables_spendTogether_30b (rec7 : Nat → Int32 → Int32 → mH → Option mH) (rec18 : Nat → Int32 → Int32 → Int32 → mH → Option mH) (rec30 : Nat → Int32 → Int32 → Int32 → Int32 → mH → Option mH) (b0 : Nat) (b1 : Int32) (b2 : Int32) (b3 : Int32) (b4 : Int32) (h : mH) : Option mH :=
  if b4 < 0 then
    rec18 b0 b1 b2 (b3 + ((-1) : Int32)) h
  else
    bd1 (gR h b0 7 7) fun x15 =>
    bd2 (f_Tables_stateOf b2 b3 b4 h) fun x19 h17 =>
    bd1 (kC h17 b0 7) fun _ =>
    bd2 (f_Tables_waysTo b0 b2 b3 b4 b1 h17) fun x24 h22 =>
    bd1 (sL h22 x15 x19 x24) fun h25 =>
    rec30 b0 b1 b2 b3 (b4 + ((-1) : Int32)) h25
set_option maxRecDepth 20000 in
theorem t_Tables_spendTogether_30b {sc : Nat × (Nat → Int32)} (rec7 : Nat → Int32 → Int32 → mH → Option mH) (hrec7 : ∀ (b0 : Nat) (b1 : Int32) (b2 : Int32) (h : mH) (h' : mH), rec7 b0 b1 b2 h = some h' → G sc y_Tables_spendTogether prog_8_method_7_code 5 none 2 54 7 [(0, .ref b0), (1, .int b1), (2, .int b2)] [] h none h') (rec18 : Nat → Int32 → Int32 → Int32 → mH → Option mH) (hrec18 : ∀ (b0 : Nat) (b1 : Int32) (b2 : Int32) (b3 : Int32) (h : mH) (h' : mH), rec18 b0 b1 b2 b3 h = some h' → G sc y_Tables_spendTogether prog_8_method_7_code 5 none 2 54 18 [(0, .ref b0), (1, .int b1), (2, .int b2), (3, .int b3)] [] h none h') (rec30 : Nat → Int32 → Int32 → Int32 → Int32 → mH → Option mH) (hrec30 : ∀ (b0 : Nat) (b1 : Int32) (b2 : Int32) (b3 : Int32) (b4 : Int32) (h : mH) (h' : mH), rec30 b0 b1 b2 b3 b4 h = some h' → G sc y_Tables_spendTogether prog_8_method_7_code 5 none 2 54 30 [(0, .ref b0), (1, .int b1), (2, .int b2), (3, .int b3), (4, .int b4)] [] h none h') (b0 : Nat) (b1 : Int32) (b2 : Int32) (b3 : Int32) (b4 : Int32) (h : mH) (h' : mH) (hf : f_Tables_spendTogether_30b rec7 rec18 rec30 b0 b1 b2 b3 b4 h = some h') : G sc y_Tables_spendTogether prog_8_method_7_code 5 none 2 54 30 [(0, .ref b0), (1, .int b1), (2, .int b2), (3, .int b3), (4, .int b4)] [] h none h' := by
  unfold f_Tables_spendTogether_30b at hf
  refine g_iload (pc := 30) 4 dd_Tables_spendTogether_0.2.2.2.2.2.2.2.2.2.2.2.2.2.2.2.2.2.2.2.1 rfl ?_
  refine g_iflt (pc := 32) 62 dd_Tables_spendTogether_0.2.2.2.2.2.2.2.2.2.2.2.2.2.2.2.2.2.2.2.2.1 (by decide) (fun c27 => ?_) (fun c27 => ?_)
  · replace hf := (if_pos c27).symm.trans hf
    refine g_iinc (pc := 62) 3 (b3 + ((-1) : Int32)) [(3, .int (b3 + ((-1) : Int32))), (0, .ref b0), (1, .int b1), (2, .int b2), (4, .int b4)] dd_Tables_spendTogether_40.2.2.2.2.2.2.2.2.2.2.2.2.1 rfl rfl (Nat.le_of_ble_eq_true rfl) rfl ?_
    refine g_goto (pc := 65) 18 dd_Tables_spendTogether_40.2.2.2.2.2.2.2.2.2.2.2.2.2.1 (by decide) ?_
    refine g_lv [1, 2, 3, 0] rfl ?_
    exact hrec18 _ _ _ _ _ _  hf
  · replace hf := (if_neg c27).symm.trans hf
    refine g_aload_n (pc := 35) 0 dd_Tables_spendTogether_0.2.2.2.2.2.2.2.2.2.2.2.2.2.2.2.2.2.2.2.2.2.1 rfl rfl ?_
    obtain ⟨x15, e16, hf⟩ := bd1_e hf
    refine g_get (pc := 36) (ci := 7) (kk := 7) dd_Tables_spendTogether_0.2.2.2.2.2.2.2.2.2.2.2.2.2.2.2.2.2.2.2.2.2.2.1 rfl in_Tables (by decide) wd_243 (gR_spec e16) ?_
    refine g_iload_n (pc := 39) 2 dd_Tables_spendTogether_0.2.2.2.2.2.2.2.2.2.2.2.2.2.2.2.2.2.2.2.2.2.2.2 rfl rfl ?_
    refine g_iload_n (pc := 40) 3 dd_Tables_spendTogether_40.1 rfl rfl ?_
    refine g_iload (pc := 41) 4 dd_Tables_spendTogether_40.2.1 rfl ?_
    obtain ⟨x19, h17, e18, hf⟩ := bd2_e hf
    refine g_callS (pc := 43) [.int b2, .int b3, .int b4] (site_of si_Tables_stateOf (by decide) (by decide)) wd_808 wd_809 dd_Tables_spendTogether_40.2.2.1 (Nat.le_of_ble_eq_true rfl) (fun z => absurd z si_na_Tables_stateOf) (fun z => absurd z si_na_Tables_stateOf) (fun z => absurd z si_na_Tables_stateOf) (c_Tables_stateOf e18) rfl ?_
    refine g_st [.int x19, .ref x15] rfl ?_
    refine g_aload_n (pc := 46) 0 dd_Tables_spendTogether_40.2.2.2.1 rfl rfl ?_
    refine g_iload_n (pc := 47) 2 dd_Tables_spendTogether_40.2.2.2.2.1 rfl rfl ?_
    refine g_iload_n (pc := 48) 3 dd_Tables_spendTogether_40.2.2.2.2.2.1 rfl rfl ?_
    refine g_iload (pc := 49) 4 dd_Tables_spendTogether_40.2.2.2.2.2.2.1 rfl ?_
    refine g_iload_n (pc := 51) 1 dd_Tables_spendTogether_40.2.2.2.2.2.2.2.1 rfl rfl ?_
    obtain ⟨u21, e20, hf⟩ := bd1_e hf
    obtain ⟨x24, h22, e23, hf⟩ := bd2_e hf
    refine g_callV (pc := 52) (ci := 7) [.int b2, .int b3, .int b4, .int b1] (site_of si_Tables_waysTo (by decide) (by decide)) wd_815 wd_817 wp_26 dd_Tables_spendTogether_40.2.2.2.2.2.2.2.2.1 rfl e20 (Nat.le_of_ble_eq_true rfl) (fun z => absurd z si_na_Tables_waysTo) (fun z => absurd z si_na_Tables_waysTo) (fun z => absurd z si_na_Tables_waysTo) (c_Tables_waysTo e23) rfl ?_
    refine g_st [.long x24, .int x19, .ref x15] rfl ?_
    obtain ⟨h25, e26, hf⟩ := bd1_e hf
    refine g_last (pc := 55) dd_Tables_spendTogether_40.2.2.2.2.2.2.2.2.2.1 e26 ?_
    refine g_iinc (pc := 56) 4 (b4 + ((-1) : Int32)) [(4, .int (b4 + ((-1) : Int32))), (0, .ref b0), (1, .int b1), (2, .int b2), (3, .int b3)] dd_Tables_spendTogether_40.2.2.2.2.2.2.2.2.2.2.1 rfl rfl (Nat.le_of_ble_eq_true rfl) rfl ?_
    refine g_goto (pc := 59) 30 dd_Tables_spendTogether_40.2.2.2.2.2.2.2.2.2.2.2.1 (by decide) ?_
    refine g_lv [1, 2, 3, 4, 0] rfl ?_
    exact hrec30 _ _ _ _ _ _ _  hf
def f_Tables_spendTogether_30 (rec7 : Nat → Int32 → Int32 → mH → Option mH) (rec18 : Nat → Int32 → Int32 → Int32 → mH → Option mH) : Nat → Nat → Int32 → Int32 → Int32 → Int32 → mH → Option mH
  | 0 => fun _ _ _ _ _ _ => none
  | n + 1 => f_Tables_spendTogether_30b rec7 rec18 (f_Tables_spendTogether_30 rec7 rec18 n)
theorem t_Tables_spendTogether_30 {sc : Nat × (Nat → Int32)} (rec7 : Nat → Int32 → Int32 → mH → Option mH) (hrec7 : ∀ (b0 : Nat) (b1 : Int32) (b2 : Int32) (h : mH) (h' : mH), rec7 b0 b1 b2 h = some h' → G sc y_Tables_spendTogether prog_8_method_7_code 5 none 2 54 7 [(0, .ref b0), (1, .int b1), (2, .int b2)] [] h none h') (rec18 : Nat → Int32 → Int32 → Int32 → mH → Option mH) (hrec18 : ∀ (b0 : Nat) (b1 : Int32) (b2 : Int32) (b3 : Int32) (h : mH) (h' : mH), rec18 b0 b1 b2 b3 h = some h' → G sc y_Tables_spendTogether prog_8_method_7_code 5 none 2 54 18 [(0, .ref b0), (1, .int b1), (2, .int b2), (3, .int b3)] [] h none h') : ∀ (n : Nat) (b0 : Nat) (b1 : Int32) (b2 : Int32) (b3 : Int32) (b4 : Int32) (h : mH) (h' : mH) (hf : f_Tables_spendTogether_30 rec7 rec18 n b0 b1 b2 b3 b4 h = some h'), G sc y_Tables_spendTogether prog_8_method_7_code 5 none 2 54 30 [(0, .ref b0), (1, .int b1), (2, .int b2), (3, .int b3), (4, .int b4)] [] h none h'
  | 0, _, _, _, _, _, _, _, hf => by cases hf
  | n + 1, _, _, _, _, _, _, _, hf => t_Tables_spendTogether_30b rec7 hrec7 rec18 hrec18 (f_Tables_spendTogether_30 rec7 rec18 n) (t_Tables_spendTogether_30 rec7 hrec7 rec18 hrec18 n) _ _ _ _ _ _ _ hf
def f_Tables_spendTogether_18b (rec7 : Nat → Int32 → Int32 → mH → Option mH) (rec18 : Nat → Int32 → Int32 → Int32 → mH → Option mH) (b0 : Nat) (b1 : Int32) (b2 : Int32) (b3 : Int32) (h : mH) : Option mH :=
  if b3 < 0 then
    rec7 b0 b1 (b2 + ((-1) : Int32)) h
  else
    bd1 (gR h b0 7 5) fun x10 =>
    bd1 (aI h 0 x10 (2 : Int32)) fun x12 =>
    f_Tables_spendTogether_30 rec7 rec18 FU b0 b1 b2 b3 x12 h
set_option maxRecDepth 20000 in
theorem t_Tables_spendTogether_18b {sc : Nat × (Nat → Int32)} (rec7 : Nat → Int32 → Int32 → mH → Option mH) (hrec7 : ∀ (b0 : Nat) (b1 : Int32) (b2 : Int32) (h : mH) (h' : mH), rec7 b0 b1 b2 h = some h' → G sc y_Tables_spendTogether prog_8_method_7_code 5 none 2 54 7 [(0, .ref b0), (1, .int b1), (2, .int b2)] [] h none h') (rec18 : Nat → Int32 → Int32 → Int32 → mH → Option mH) (hrec18 : ∀ (b0 : Nat) (b1 : Int32) (b2 : Int32) (b3 : Int32) (h : mH) (h' : mH), rec18 b0 b1 b2 b3 h = some h' → G sc y_Tables_spendTogether prog_8_method_7_code 5 none 2 54 18 [(0, .ref b0), (1, .int b1), (2, .int b2), (3, .int b3)] [] h none h') (b0 : Nat) (b1 : Int32) (b2 : Int32) (b3 : Int32) (h : mH) (h' : mH) (hf : f_Tables_spendTogether_18b rec7 rec18 b0 b1 b2 b3 h = some h') : G sc y_Tables_spendTogether prog_8_method_7_code 5 none 2 54 18 [(0, .ref b0), (1, .int b1), (2, .int b2), (3, .int b3)] [] h none h' := by
  unfold f_Tables_spendTogether_18b at hf
  refine g_iload_n (pc := 18) 3 dd_Tables_spendTogether_0.2.2.2.2.2.2.2.2.2.2.2.2.1 rfl rfl ?_
  refine g_iflt (pc := 19) 68 dd_Tables_spendTogether_0.2.2.2.2.2.2.2.2.2.2.2.2.2.1 (by decide) (fun c14 => ?_) (fun c14 => ?_)
  · replace hf := (if_pos c14).symm.trans hf
    refine g_iinc (pc := 68) 2 (b2 + ((-1) : Int32)) [(2, .int (b2 + ((-1) : Int32))), (0, .ref b0), (1, .int b1), (3, .int b3)] dd_Tables_spendTogether_40.2.2.2.2.2.2.2.2.2.2.2.2.2.2.1 rfl rfl (Nat.le_of_ble_eq_true rfl) rfl ?_
    refine g_goto (pc := 71) 7 dd_Tables_spendTogether_40.2.2.2.2.2.2.2.2.2.2.2.2.2.2.2.1 (by decide) ?_
    refine g_lv [1, 2, 0] rfl ?_
    exact hrec7 _ _ _ _ _  hf
  · replace hf := (if_neg c14).symm.trans hf
    refine g_aload_n (pc := 22) 0 dd_Tables_spendTogether_0.2.2.2.2.2.2.2.2.2.2.2.2.2.2.1 rfl rfl ?_
    obtain ⟨x10, e11, hf⟩ := bd1_e hf
    refine g_get (pc := 23) (ci := 7) (kk := 5) dd_Tables_spendTogether_0.2.2.2.2.2.2.2.2.2.2.2.2.2.2.2.1 rfl in_Tables (by decide) wd_241 (gR_spec e11) ?_
    refine g_iconst (pc := 26) (2 : Int32) dd_Tables_spendTogether_0.2.2.2.2.2.2.2.2.2.2.2.2.2.2.2.2.1 (by decide) ?_
    obtain ⟨x12, e13, hf⟩ := bd1_e hf
    refine g_iald (pc := 27) dd_Tables_spendTogether_0.2.2.2.2.2.2.2.2.2.2.2.2.2.2.2.2.2.1 e13 ?_
    refine g_istore (pc := 28) [(4, .int x12), (0, .ref b0), (1, .int b1), (2, .int b2), (3, .int b3)] dd_Tables_spendTogether_0.2.2.2.2.2.2.2.2.2.2.2.2.2.2.2.2.2.2.1 (Nat.le_of_ble_eq_true rfl) rfl ?_
    refine g_lv [1, 2, 3, 4, 0] rfl ?_
    exact t_Tables_spendTogether_30 rec7 hrec7 rec18 hrec18 FU _ _ _ _ _ _ _  hf
def f_Tables_spendTogether_18 (rec7 : Nat → Int32 → Int32 → mH → Option mH) : Nat → Nat → Int32 → Int32 → Int32 → mH → Option mH
  | 0 => fun _ _ _ _ _ => none
  | n + 1 => f_Tables_spendTogether_18b rec7 (f_Tables_spendTogether_18 rec7 n)
theorem t_Tables_spendTogether_18 {sc : Nat × (Nat → Int32)} (rec7 : Nat → Int32 → Int32 → mH → Option mH) (hrec7 : ∀ (b0 : Nat) (b1 : Int32) (b2 : Int32) (h : mH) (h' : mH), rec7 b0 b1 b2 h = some h' → G sc y_Tables_spendTogether prog_8_method_7_code 5 none 2 54 7 [(0, .ref b0), (1, .int b1), (2, .int b2)] [] h none h') : ∀ (n : Nat) (b0 : Nat) (b1 : Int32) (b2 : Int32) (b3 : Int32) (h : mH) (h' : mH) (hf : f_Tables_spendTogether_18 rec7 n b0 b1 b2 b3 h = some h'), G sc y_Tables_spendTogether prog_8_method_7_code 5 none 2 54 18 [(0, .ref b0), (1, .int b1), (2, .int b2), (3, .int b3)] [] h none h'
  | 0, _, _, _, _, _, _, hf => by cases hf
  | n + 1, _, _, _, _, _, _, hf => t_Tables_spendTogether_18b rec7 hrec7 (f_Tables_spendTogether_18 rec7 n) (t_Tables_spendTogether_18 rec7 hrec7 n) _ _ _ _ _ _ hf
def f_Tables_spendTogether_7b (rec7 : Nat → Int32 → Int32 → mH → Option mH) (b0 : Nat) (b1 : Int32) (b2 : Int32) (h : mH) : Option mH :=
  if b2 < 0 then
    some h
  else
    bd1 (gR h b0 7 5) fun x5 =>
    bd1 (aI h 0 x5 (1 : Int32)) fun x7 =>
    f_Tables_spendTogether_18 rec7 FU b0 b1 b2 x7 h
set_option maxRecDepth 20000 in
theorem t_Tables_spendTogether_7b {sc : Nat × (Nat → Int32)} (rec7 : Nat → Int32 → Int32 → mH → Option mH) (hrec7 : ∀ (b0 : Nat) (b1 : Int32) (b2 : Int32) (h : mH) (h' : mH), rec7 b0 b1 b2 h = some h' → G sc y_Tables_spendTogether prog_8_method_7_code 5 none 2 54 7 [(0, .ref b0), (1, .int b1), (2, .int b2)] [] h none h') (b0 : Nat) (b1 : Int32) (b2 : Int32) (h : mH) (h' : mH) (hf : f_Tables_spendTogether_7b rec7 b0 b1 b2 h = some h') : G sc y_Tables_spendTogether prog_8_method_7_code 5 none 2 54 7 [(0, .ref b0), (1, .int b1), (2, .int b2)] [] h none h' := by
  unfold f_Tables_spendTogether_7b at hf
  refine g_iload_n (pc := 7) 2 dd_Tables_spendTogether_0.2.2.2.2.2.1 rfl rfl ?_
  refine g_iflt (pc := 8) 74 dd_Tables_spendTogether_0.2.2.2.2.2.2.1 (by decide) (fun c9 => ?_) (fun c9 => ?_)
  · replace hf := (if_pos c9).symm.trans hf
    obtain rfl := ret1 hf
    exact g_vret (pc := 74) rfl dd_Tables_spendTogether_40.2.2.2.2.2.2.2.2.2.2.2.2.2.2.2.2
  · replace hf := (if_neg c9).symm.trans hf
    refine g_aload_n (pc := 11) 0 dd_Tables_spendTogether_0.2.2.2.2.2.2.2.1 rfl rfl ?_
    obtain ⟨x5, e6, hf⟩ := bd1_e hf
    refine g_get (pc := 12) (ci := 7) (kk := 5) dd_Tables_spendTogether_0.2.2.2.2.2.2.2.2.1 rfl in_Tables (by decide) wd_241 (gR_spec e6) ?_
    refine g_iconst (pc := 15) (1 : Int32) dd_Tables_spendTogether_0.2.2.2.2.2.2.2.2.2.1 (by decide) ?_
    obtain ⟨x7, e8, hf⟩ := bd1_e hf
    refine g_iald (pc := 16) dd_Tables_spendTogether_0.2.2.2.2.2.2.2.2.2.2.1 e8 ?_
    refine g_istore_n (pc := 17) [(3, .int x7), (0, .ref b0), (1, .int b1), (2, .int b2)] dd_Tables_spendTogether_0.2.2.2.2.2.2.2.2.2.2.2.1 rfl (Nat.le_of_ble_eq_true rfl) rfl ?_
    refine g_lv [1, 2, 3, 0] rfl ?_
    exact t_Tables_spendTogether_18 rec7 hrec7 FU _ _ _ _ _ _  hf
def f_Tables_spendTogether_7  : Nat → Nat → Int32 → Int32 → mH → Option mH
  | 0 => fun _ _ _ _ => none
  | n + 1 => f_Tables_spendTogether_7b  (f_Tables_spendTogether_7  n)
theorem t_Tables_spendTogether_7 {sc : Nat × (Nat → Int32)}  : ∀ (n : Nat) (b0 : Nat) (b1 : Int32) (b2 : Int32) (h : mH) (h' : mH) (hf : f_Tables_spendTogether_7  n b0 b1 b2 h = some h'), G sc y_Tables_spendTogether prog_8_method_7_code 5 none 2 54 7 [(0, .ref b0), (1, .int b1), (2, .int b2)] [] h none h'
  | 0, _, _, _, _, _, hf => by cases hf
  | n + 1, _, _, _, _, _, hf => t_Tables_spendTogether_7b  (f_Tables_spendTogether_7  n) (t_Tables_spendTogether_7  n) _ _ _ _ _ hf
def f_Tables_spendTogether_0  (a0 : Nat) (a1 : Int32) (h : mH) : Option mH :=
  bd1 (gR h a0 7 5) fun x1 =>
  bd1 (aI h 0 x1 (0 : Int32)) fun x3 =>
  f_Tables_spendTogether_7  FU a0 a1 x3 h
set_option maxRecDepth 20000 in
theorem t_Tables_spendTogether_0 {sc : Nat × (Nat → Int32)}  (a0 : Nat) (a1 : Int32) (h : mH) (h' : mH) (hf : f_Tables_spendTogether_0  a0 a1 h = some h') : G sc y_Tables_spendTogether prog_8_method_7_code 5 none 2 54 0 [(0, .ref a0), (1, .int a1)] [] h none h' := by
  unfold f_Tables_spendTogether_0 at hf
  refine g_aload_n (pc := 0) 0 dd_Tables_spendTogether_0.1 rfl rfl ?_
  obtain ⟨x1, e2, hf⟩ := bd1_e hf
  refine g_get (pc := 1) (ci := 7) (kk := 5) dd_Tables_spendTogether_0.2.1 rfl in_Tables (by decide) wd_241 (gR_spec e2) ?_
  refine g_iconst (pc := 4) (0 : Int32) dd_Tables_spendTogether_0.2.2.1 (by decide) ?_
  obtain ⟨x3, e4, hf⟩ := bd1_e hf
  refine g_iald (pc := 5) dd_Tables_spendTogether_0.2.2.2.1 e4 ?_
  refine g_istore_n (pc := 6) [(2, .int x3), (0, .ref a0), (1, .int a1)] dd_Tables_spendTogether_0.2.2.2.2.1 rfl (Nat.le_of_ble_eq_true rfl) rfl ?_
  refine g_lv [1, 2, 0] rfl ?_
  exact t_Tables_spendTogether_7  FU _ _ _ _ _  hf
def f_Tables_spendTogether (a0 : Nat) (a1 : Int32) (h : mH) : Option mH := f_Tables_spendTogether_0 a0 a1 h
theorem c_Tables_spendTogether {sc : Nat × (Nat → Int32)} {a0 : Nat} {a1 : Int32} {h : mH} {h' : mH} (hf : f_Tables_spendTogether a0 a1 h = some h') : MM sc y_Tables_spendTogether prog_8_method_7_code 5 none 2 54 [.ref a0, .int a1] h none h' :=
  mm_of_G si_pn_Tables (Nat.le_of_ble_eq_true rfl) (t_Tables_spendTogether_0 _ _ _ _ hf)
/-! Tables isDueOf (II)Z -/
set_option maxRecDepth 100000 in
theorem dd_Tables_isDueOf_0 : (decode prog_8_method_10_code 0 = .ok (.aload_n 0, 1)) ∧ (decode prog_8_method_10_code 1 = .ok (.getfield 21, 3)) ∧ (decode prog_8_method_10_code 4 = .ok (.iload_n 1, 1)) ∧ (decode prog_8_method_10_code 5 = .ok (.iaload, 1)) ∧ (decode prog_8_method_10_code 6 = .ok (.iconst (-1), 1)) ∧ (decode prog_8_method_10_code 7 = .ok (.if_icmp .eq 13, 3)) ∧ (decode prog_8_method_10_code 10 = .ok (.aload_n 0, 1)) ∧ (decode prog_8_method_10_code 11 = .ok (.getfield 21, 3)) ∧ (decode prog_8_method_10_code 14 = .ok (.iload_n 1, 1)) ∧ (decode prog_8_method_10_code 15 = .ok (.iaload, 1)) ∧ (decode prog_8_method_10_code 16 = .ok (.iload_n 2, 1)) ∧ (decode prog_8_method_10_code 17 = .ok (.if_icmp .ne 7, 3)) ∧ (decode prog_8_method_10_code 20 = .ok (.iconst 1, 1)) ∧ (decode prog_8_method_10_code 21 = .ok (.goto 4, 3)) ∧ (decode prog_8_method_10_code 24 = .ok (.iconst 0, 1)) ∧ (decode prog_8_method_10_code 25 = .ok (.ireturn, 1)) := by
  have h : List.drop 0 prog_8_method_10_code.data.toList = 0x2a :: _ := rfl
  refine ⟨zq_k_n 42 h rfl (zq_o_42 _), ?_⟩
  replace h := zq_nx1 (q := 1) h rfl
  refine ⟨zq_k_u2 180 (fun z => .getfield z) 21 h rfl (zq_o_180 _) (by decide +kernel), ?_⟩
  replace h := zq_nx3 (q := 4) h rfl
  refine ⟨zq_k_n 27 h rfl (zq_o_27 _), ?_⟩
  replace h := zq_nx1 (q := 5) h rfl
  refine ⟨zq_k_n 46 h rfl (zq_o_46 _), ?_⟩
  replace h := zq_nx1 (q := 6) h rfl
  refine ⟨zq_k_n 2 h rfl (zq_o_2 _), ?_⟩
  replace h := zq_nx1 (q := 7) h rfl
  refine ⟨zq_k_s2 159 (fun z => .if_icmp .eq z) 13 h rfl (zq_o_159 _) (by decide +kernel), ?_⟩
  replace h := zq_nx3 (q := 10) h rfl
  refine ⟨zq_k_n 42 h rfl (zq_o_42 _), ?_⟩
  replace h := zq_nx1 (q := 11) h rfl
  refine ⟨zq_k_u2 180 (fun z => .getfield z) 21 h rfl (zq_o_180 _) (by decide +kernel), ?_⟩
  replace h := zq_nx3 (q := 14) h rfl
  refine ⟨zq_k_n 27 h rfl (zq_o_27 _), ?_⟩
  replace h := zq_nx1 (q := 15) h rfl
  refine ⟨zq_k_n 46 h rfl (zq_o_46 _), ?_⟩
  replace h := zq_nx1 (q := 16) h rfl
  refine ⟨zq_k_n 28 h rfl (zq_o_28 _), ?_⟩
  replace h := zq_nx1 (q := 17) h rfl
  refine ⟨zq_k_s2 160 (fun z => .if_icmp .ne z) 7 h rfl (zq_o_160 _) (by decide +kernel), ?_⟩
  replace h := zq_nx3 (q := 20) h rfl
  refine ⟨zq_k_n 4 h rfl (zq_o_4 _), ?_⟩
  replace h := zq_nx1 (q := 21) h rfl
  refine ⟨zq_k_s2 167 (fun z => .goto z) 4 h rfl (zq_o_167 _) (by decide +kernel), ?_⟩
  replace h := zq_nx3 (q := 24) h rfl
  refine ⟨zq_k_n 3 h rfl (zq_o_3 _), ?_⟩
  replace h := zq_nx1 (q := 25) h rfl
  exact zq_k_n 172 h rfl (zq_o_172 _)
def f_Tables_isDueOf_20   (h : mH) : Option (Int32 × mH) :=
  some ((1 : Int32), h)
set_option maxRecDepth 20000 in
theorem t_Tables_isDueOf_20 {sc : Nat × (Nat → Int32)}   (h : mH) (r : Int32) (h' : mH) (hf : f_Tables_isDueOf_20   h = some (r, h')) : G sc y_Tables_isDueOf prog_8_method_10_code 3 (some .boolean) 0 0 20 [] [] h (some (.int r)) h' := by
  unfold f_Tables_isDueOf_20 at hf
  refine g_iconst (pc := 20) (1 : Int32) dd_Tables_isDueOf_0.2.2.2.2.2.2.2.2.2.2.2.2.1 (by decide) ?_
  refine g_goto (pc := 21) 25 dd_Tables_isDueOf_0.2.2.2.2.2.2.2.2.2.2.2.2.2.1 (by decide) ?_
  obtain ⟨rfl, rfl⟩ := ret2 hf
  exact g_zret (pc := 25) rfl rfl dd_Tables_isDueOf_0.2.2.2.2.2.2.2.2.2.2.2.2.2.2.2
def f_Tables_isDueOf_0  (a0 : Nat) (a1 : Int32) (a2 : Int32) (h : mH) : Option (Int32 × mH) :=
  bd1 (gR h a0 7 4) fun x1 =>
  bd1 (aI h 0 x1 a1) fun x3 =>
  if x3 = ((-1) : Int32) then
    f_Tables_isDueOf_20  h
  else
    bd1 (gR h a0 7 4) fun x5 =>
    bd1 (aI h 0 x5 a1) fun x7 =>
    if x7 = a2 then
      f_Tables_isDueOf_20  h
    else
      some ((0 : Int32), h)
set_option maxRecDepth 20000 in
theorem t_Tables_isDueOf_0 {sc : Nat × (Nat → Int32)}  (a0 : Nat) (a1 : Int32) (a2 : Int32) (h : mH) (r : Int32) (h' : mH) (hf : f_Tables_isDueOf_0  a0 a1 a2 h = some (r, h')) : G sc y_Tables_isDueOf prog_8_method_10_code 3 (some .boolean) 0 0 0 [(0, .ref a0), (1, .int a1), (2, .int a2)] [] h (some (.int r)) h' := by
  unfold f_Tables_isDueOf_0 at hf
  refine g_aload_n (pc := 0) 0 dd_Tables_isDueOf_0.1 rfl rfl ?_
  obtain ⟨x1, e2, hf⟩ := bd1_e hf
  refine g_get (pc := 1) (ci := 7) (kk := 4) dd_Tables_isDueOf_0.2.1 rfl in_Tables (by decide) wd_240 (gR_spec e2) ?_
  refine g_iload_n (pc := 4) 1 dd_Tables_isDueOf_0.2.2.1 rfl rfl ?_
  obtain ⟨x3, e4, hf⟩ := bd1_e hf
  refine g_iald (pc := 5) dd_Tables_isDueOf_0.2.2.2.1 e4 ?_
  refine g_iconst (pc := 6) ((-1) : Int32) dd_Tables_isDueOf_0.2.2.2.2.1 (by decide) ?_
  refine g_icmpeq (pc := 7) 20 dd_Tables_isDueOf_0.2.2.2.2.2.1 (by decide) (fun c10 => ?_) (fun c10 => ?_)
  · replace hf := (if_pos c10).symm.trans hf
    refine g_lv [] rfl ?_
    exact t_Tables_isDueOf_20  _ _ _  hf
  · replace hf := (if_neg c10).symm.trans hf
    refine g_aload_n (pc := 10) 0 dd_Tables_isDueOf_0.2.2.2.2.2.2.1 rfl rfl ?_
    obtain ⟨x5, e6, hf⟩ := bd1_e hf
    refine g_get (pc := 11) (ci := 7) (kk := 4) dd_Tables_isDueOf_0.2.2.2.2.2.2.2.1 rfl in_Tables (by decide) wd_240 (gR_spec e6) ?_
    refine g_iload_n (pc := 14) 1 dd_Tables_isDueOf_0.2.2.2.2.2.2.2.2.1 rfl rfl ?_
    obtain ⟨x7, e8, hf⟩ := bd1_e hf
    refine g_iald (pc := 15) dd_Tables_isDueOf_0.2.2.2.2.2.2.2.2.2.1 e8 ?_
    refine g_iload_n (pc := 16) 2 dd_Tables_isDueOf_0.2.2.2.2.2.2.2.2.2.2.1 rfl rfl ?_
    refine g_icmpne (pc := 17) 24 dd_Tables_isDueOf_0.2.2.2.2.2.2.2.2.2.2.2.1 (by decide) (fun c9 => ?_) (fun c9 => ?_)
    · replace hf := (if_neg c9).symm.trans hf
      refine g_iconst (pc := 24) (0 : Int32) dd_Tables_isDueOf_0.2.2.2.2.2.2.2.2.2.2.2.2.2.2.1 (by decide) ?_
      obtain ⟨rfl, rfl⟩ := ret2 hf
      exact g_zret (pc := 25) rfl rfl dd_Tables_isDueOf_0.2.2.2.2.2.2.2.2.2.2.2.2.2.2.2
    · replace hf := (if_pos c9).symm.trans hf
      refine g_lv [] rfl ?_
      exact t_Tables_isDueOf_20  _ _ _  hf
def f_Tables_isDueOf (a0 : Nat) (a1 : Int32) (a2 : Int32) (h : mH) : Option (Int32 × mH) := f_Tables_isDueOf_0 a0 a1 a2 h
theorem c_Tables_isDueOf {sc : Nat × (Nat → Int32)} {a0 : Nat} {a1 : Int32} {a2 : Int32} {h : mH} {r : Int32} {h' : mH} (hf : f_Tables_isDueOf a0 a1 a2 h = some (r, h')) : MM sc y_Tables_isDueOf prog_8_method_10_code 3 (some .boolean) 0 0 [.ref a0, .int a1, .int a2] h (some (.int r)) h' :=
  mm_of_G si_pn_Tables (Nat.le_of_ble_eq_true rfl) (t_Tables_isDueOf_0 _ _ _ _ _ _ hf)
/-! Tables sumOfDue ()J -/
set_option maxRecDepth 100000 in
theorem dd_Tables_sumOfDue_0 : (decode prog_8_method_9_code 0 = .ok (.lconst 0, 1)) ∧ (decode prog_8_method_9_code 1 = .ok (.lstore_n 1, 1)) ∧ (decode prog_8_method_9_code 2 = .ok (.iconst 0, 1)) ∧ (decode prog_8_method_9_code 3 = .ok (.istore_n 3, 1)) ∧ (decode prog_8_method_9_code 4 = .ok (.iload_n 3, 1)) ∧ (decode prog_8_method_9_code 5 = .ok (.aload_n 0, 1)) ∧ (decode prog_8_method_9_code 6 = .ok (.getfield 24, 3)) ∧ (decode prog_8_method_9_code 9 = .ok (.iconst 0, 1)) ∧ (decode prog_8_method_9_code 10 = .ok (.iaload, 1)) ∧ (decode prog_8_method_9_code 11 = .ok (.if_icmp .gt 94, 3)) ∧ (decode prog_8_method_9_code 14 = .ok (.iconst 0, 1)) ∧ (decode prog_8_method_9_code 15 = .ok (.istore 4, 2)) ∧ (decode prog_8_method_9_code 17 = .ok (.iload 4, 2)) ∧ (decode prog_8_method_9_code 19 = .ok (.aload_n 0, 1)) ∧ (decode prog_8_method_9_code 20 = .ok (.getfield 24, 3)) ∧ (decode prog_8_method_9_code 23 = .ok (.iconst 1, 1)) ∧ (decode prog_8_method_9_code 24 = .ok (.iaload, 1)) ∧ (decode prog_8_method_9_code 25 = .ok (.if_icmp .gt 74, 3)) ∧ (decode prog_8_method_9_code 28 = .ok (.iconst 0, 1)) ∧ (decode prog_8_method_9_code 29 = .ok (.istore 5, 2)) ∧ (decode prog_8_method_9_code 31 = .ok (.iload 5, 2)) ∧ (decode prog_8_method_9_code 33 = .ok (.aload_n 0, 1)) ∧ (decode prog_8_method_9_code 34 = .ok (.getfield 24, 3)) ∧ (decode prog_8_method_9_code 37 = .ok (.iconst 2, 1)) := by
  have h : List.drop 0 prog_8_method_9_code.data.toList = 0x09 :: _ := rfl
  refine ⟨zq_k_n 9 h rfl (zq_o_9 _), ?_⟩
  replace h := zq_nx1 (q := 1) h rfl
  refine ⟨zq_k_n 64 h rfl (zq_o_64 _), ?_⟩
  replace h := zq_nx1 (q := 2) h rfl
  refine ⟨zq_k_n 3 h rfl (zq_o_3 _), ?_⟩
  replace h := zq_nx1 (q := 3) h rfl
  refine ⟨zq_k_n 62 h rfl (zq_o_62 _), ?_⟩
  replace h := zq_nx1 (q := 4) h rfl
  refine ⟨zq_k_n 29 h rfl (zq_o_29 _), ?_⟩
  replace h := zq_nx1 (q := 5) h rfl
  refine ⟨zq_k_n 42 h rfl (zq_o_42 _), ?_⟩
  replace h := zq_nx1 (q := 6) h rfl
  refine ⟨zq_k_u2 180 (fun z => .getfield z) 24 h rfl (zq_o_180 _) (by decide +kernel), ?_⟩
  replace h := zq_nx3 (q := 9) h rfl
  refine ⟨zq_k_n 3 h rfl (zq_o_3 _), ?_⟩
  replace h := zq_nx1 (q := 10) h rfl
  refine ⟨zq_k_n 46 h rfl (zq_o_46 _), ?_⟩
  replace h := zq_nx1 (q := 11) h rfl
  refine ⟨zq_k_s2 163 (fun z => .if_icmp .gt z) 94 h rfl (zq_o_163 _) (by decide +kernel), ?_⟩
  replace h := zq_nx3 (q := 14) h rfl
  refine ⟨zq_k_n 3 h rfl (zq_o_3 _), ?_⟩
  replace h := zq_nx1 (q := 15) h rfl
  refine ⟨zq_k_u1 54 (fun z => .istore z) 4 h rfl (zq_o_54 _) (by decide +kernel), ?_⟩
  replace h := zq_nx2 (q := 17) h rfl
  refine ⟨zq_k_u1 21 (fun z => .iload z) 4 h rfl (zq_o_21 _) (by decide +kernel), ?_⟩
  replace h := zq_nx2 (q := 19) h rfl
  refine ⟨zq_k_n 42 h rfl (zq_o_42 _), ?_⟩
  replace h := zq_nx1 (q := 20) h rfl
  refine ⟨zq_k_u2 180 (fun z => .getfield z) 24 h rfl (zq_o_180 _) (by decide +kernel), ?_⟩
  replace h := zq_nx3 (q := 23) h rfl
  refine ⟨zq_k_n 4 h rfl (zq_o_4 _), ?_⟩
  replace h := zq_nx1 (q := 24) h rfl
  refine ⟨zq_k_n 46 h rfl (zq_o_46 _), ?_⟩
  replace h := zq_nx1 (q := 25) h rfl
  refine ⟨zq_k_s2 163 (fun z => .if_icmp .gt z) 74 h rfl (zq_o_163 _) (by decide +kernel), ?_⟩
  replace h := zq_nx3 (q := 28) h rfl
  refine ⟨zq_k_n 3 h rfl (zq_o_3 _), ?_⟩
  replace h := zq_nx1 (q := 29) h rfl
  refine ⟨zq_k_u1 54 (fun z => .istore z) 5 h rfl (zq_o_54 _) (by decide +kernel), ?_⟩
  replace h := zq_nx2 (q := 31) h rfl
  refine ⟨zq_k_u1 21 (fun z => .iload z) 5 h rfl (zq_o_21 _) (by decide +kernel), ?_⟩
  replace h := zq_nx2 (q := 33) h rfl
  refine ⟨zq_k_n 42 h rfl (zq_o_42 _), ?_⟩
  replace h := zq_nx1 (q := 34) h rfl
  refine ⟨zq_k_u2 180 (fun z => .getfield z) 24 h rfl (zq_o_180 _) (by decide +kernel), ?_⟩
  replace h := zq_nx3 (q := 37) h rfl
  exact zq_k_n 5 h rfl (zq_o_5 _)
set_option maxRecDepth 100000 in
theorem dd_Tables_sumOfDue_38 : (decode prog_8_method_9_code 38 = .ok (.iaload, 1)) ∧ (decode prog_8_method_9_code 39 = .ok (.if_icmp .gt 54, 3)) ∧ (decode prog_8_method_9_code 42 = .ok (.aload_n 0, 1)) ∧ (decode prog_8_method_9_code 43 = .ok (.iconst 0, 1)) ∧ (decode prog_8_method_9_code 44 = .ok (.iload_n 3, 1)) ∧ (decode prog_8_method_9_code 45 = .ok (.invokevirtual 110, 3)) ∧ (decode prog_8_method_9_code 48 = .ok (.ifCond .eq 39, 3)) ∧ (decode prog_8_method_9_code 51 = .ok (.aload_n 0, 1)) ∧ (decode prog_8_method_9_code 52 = .ok (.iconst 1, 1)) ∧ (decode prog_8_method_9_code 53 = .ok (.iload 4, 2)) ∧ (decode prog_8_method_9_code 55 = .ok (.invokevirtual 110, 3)) ∧ (decode prog_8_method_9_code 58 = .ok (.ifCond .eq 29, 3)) ∧ (decode prog_8_method_9_code 61 = .ok (.aload_n 0, 1)) ∧ (decode prog_8_method_9_code 62 = .ok (.iconst 2, 1)) ∧ (decode prog_8_method_9_code 63 = .ok (.iload 5, 2)) ∧ (decode prog_8_method_9_code 65 = .ok (.invokevirtual 110, 3)) ∧ (decode prog_8_method_9_code 68 = .ok (.ifCond .eq 19, 3)) ∧ (decode prog_8_method_9_code 71 = .ok (.lload_n 1, 1)) ∧ (decode prog_8_method_9_code 72 = .ok (.aload_n 0, 1)) ∧ (decode prog_8_method_9_code 73 = .ok (.getfield 31, 3)) ∧ (decode prog_8_method_9_code 76 = .ok (.iload_n 3, 1)) ∧ (decode prog_8_method_9_code 77 = .ok (.iload 4, 2)) ∧ (decode prog_8_method_9_code 79 = .ok (.iload 5, 2)) ∧ (decode prog_8_method_9_code 81 = .ok (.invokestatic 93, 3)) := by
  have h : List.drop 38 prog_8_method_9_code.data.toList = 0x2e :: _ := rfl
  refine ⟨zq_k_n 46 h rfl (zq_o_46 _), ?_⟩
  replace h := zq_nx1 (q := 39) h rfl
  refine ⟨zq_k_s2 163 (fun z => .if_icmp .gt z) 54 h rfl (zq_o_163 _) (by decide +kernel), ?_⟩
  replace h := zq_nx3 (q := 42) h rfl
  refine ⟨zq_k_n 42 h rfl (zq_o_42 _), ?_⟩
  replace h := zq_nx1 (q := 43) h rfl
  refine ⟨zq_k_n 3 h rfl (zq_o_3 _), ?_⟩
  replace h := zq_nx1 (q := 44) h rfl
  refine ⟨zq_k_n 29 h rfl (zq_o_29 _), ?_⟩
  replace h := zq_nx1 (q := 45) h rfl
  refine ⟨zq_k_u2 182 (fun z => .invokevirtual z) 110 h rfl (zq_o_182 _) (by decide +kernel), ?_⟩
  replace h := zq_nx3 (q := 48) h rfl
  refine ⟨zq_k_s2 153 (fun z => .ifCond .eq z) 39 h rfl (zq_o_153 _) (by decide +kernel), ?_⟩
  replace h := zq_nx3 (q := 51) h rfl
  refine ⟨zq_k_n 42 h rfl (zq_o_42 _), ?_⟩
  replace h := zq_nx1 (q := 52) h rfl
  refine ⟨zq_k_n 4 h rfl (zq_o_4 _), ?_⟩
  replace h := zq_nx1 (q := 53) h rfl
  refine ⟨zq_k_u1 21 (fun z => .iload z) 4 h rfl (zq_o_21 _) (by decide +kernel), ?_⟩
  replace h := zq_nx2 (q := 55) h rfl
  refine ⟨zq_k_u2 182 (fun z => .invokevirtual z) 110 h rfl (zq_o_182 _) (by decide +kernel), ?_⟩
  replace h := zq_nx3 (q := 58) h rfl
  refine ⟨zq_k_s2 153 (fun z => .ifCond .eq z) 29 h rfl (zq_o_153 _) (by decide +kernel), ?_⟩
  replace h := zq_nx3 (q := 61) h rfl
  refine ⟨zq_k_n 42 h rfl (zq_o_42 _), ?_⟩
  replace h := zq_nx1 (q := 62) h rfl
  refine ⟨zq_k_n 5 h rfl (zq_o_5 _), ?_⟩
  replace h := zq_nx1 (q := 63) h rfl
  refine ⟨zq_k_u1 21 (fun z => .iload z) 5 h rfl (zq_o_21 _) (by decide +kernel), ?_⟩
  replace h := zq_nx2 (q := 65) h rfl
  refine ⟨zq_k_u2 182 (fun z => .invokevirtual z) 110 h rfl (zq_o_182 _) (by decide +kernel), ?_⟩
  replace h := zq_nx3 (q := 68) h rfl
  refine ⟨zq_k_s2 153 (fun z => .ifCond .eq z) 19 h rfl (zq_o_153 _) (by decide +kernel), ?_⟩
  replace h := zq_nx3 (q := 71) h rfl
  refine ⟨zq_k_n 31 h rfl (zq_o_31 _), ?_⟩
  replace h := zq_nx1 (q := 72) h rfl
  refine ⟨zq_k_n 42 h rfl (zq_o_42 _), ?_⟩
  replace h := zq_nx1 (q := 73) h rfl
  refine ⟨zq_k_u2 180 (fun z => .getfield z) 31 h rfl (zq_o_180 _) (by decide +kernel), ?_⟩
  replace h := zq_nx3 (q := 76) h rfl
  refine ⟨zq_k_n 29 h rfl (zq_o_29 _), ?_⟩
  replace h := zq_nx1 (q := 77) h rfl
  refine ⟨zq_k_u1 21 (fun z => .iload z) 4 h rfl (zq_o_21 _) (by decide +kernel), ?_⟩
  replace h := zq_nx2 (q := 79) h rfl
  refine ⟨zq_k_u1 21 (fun z => .iload z) 5 h rfl (zq_o_21 _) (by decide +kernel), ?_⟩
  replace h := zq_nx2 (q := 81) h rfl
  exact zq_k_u2 184 (fun z => .invokestatic z) 93 h rfl (zq_o_184 _) (by decide +kernel)
set_option maxRecDepth 100000 in
theorem dd_Tables_sumOfDue_84 : (decode prog_8_method_9_code 84 = .ok (.laload, 1)) ∧ (decode prog_8_method_9_code 85 = .ok (.ladd, 1)) ∧ (decode prog_8_method_9_code 86 = .ok (.lstore_n 1, 1)) ∧ (decode prog_8_method_9_code 87 = .ok (.iinc 5 1, 3)) ∧ (decode prog_8_method_9_code 90 = .ok (.goto (-59), 3)) ∧ (decode prog_8_method_9_code 93 = .ok (.iinc 4 1, 3)) ∧ (decode prog_8_method_9_code 96 = .ok (.goto (-79), 3)) ∧ (decode prog_8_method_9_code 99 = .ok (.iinc 3 1, 3)) ∧ (decode prog_8_method_9_code 102 = .ok (.goto (-98), 3)) ∧ (decode prog_8_method_9_code 105 = .ok (.lload_n 1, 1)) ∧ (decode prog_8_method_9_code 106 = .ok (.lreturn, 1)) := by
  have h : List.drop 84 prog_8_method_9_code.data.toList = 0x2f :: _ := rfl
  refine ⟨zq_k_n 47 h rfl (zq_o_47 _), ?_⟩
  replace h := zq_nx1 (q := 85) h rfl
  refine ⟨zq_k_n 97 h rfl (zq_o_97 _), ?_⟩
  replace h := zq_nx1 (q := 86) h rfl
  refine ⟨zq_k_n 64 h rfl (zq_o_64 _), ?_⟩
  replace h := zq_nx1 (q := 87) h rfl
  refine ⟨zq_k_iinc 5 1 h rfl (zq_o_132 _) (by decide +kernel) (by decide +kernel), ?_⟩
  replace h := zq_nx3 (q := 90) h rfl
  refine ⟨zq_k_s2 167 (fun z => .goto z) (-59) h rfl (zq_o_167 _) (by decide +kernel), ?_⟩
  replace h := zq_nx3 (q := 93) h rfl
  refine ⟨zq_k_iinc 4 1 h rfl (zq_o_132 _) (by decide +kernel) (by decide +kernel), ?_⟩
  replace h := zq_nx3 (q := 96) h rfl
  refine ⟨zq_k_s2 167 (fun z => .goto z) (-79) h rfl (zq_o_167 _) (by decide +kernel), ?_⟩
  replace h := zq_nx3 (q := 99) h rfl
  refine ⟨zq_k_iinc 3 1 h rfl (zq_o_132 _) (by decide +kernel) (by decide +kernel), ?_⟩
  replace h := zq_nx3 (q := 102) h rfl
  refine ⟨zq_k_s2 167 (fun z => .goto z) (-98) h rfl (zq_o_167 _) (by decide +kernel), ?_⟩
  replace h := zq_nx3 (q := 105) h rfl
  refine ⟨zq_k_n 31 h rfl (zq_o_31 _), ?_⟩
  replace h := zq_nx1 (q := 106) h rfl
  exact zq_k_n 173 h rfl (zq_o_173 _)
def f_Tables_sumOfDue_87 (rec4 : Nat → Int64 → Int32 → mH → Option (Int64 × mH)) (rec17 : Nat → Int64 → Int32 → Int32 → mH → Option (Int64 × mH)) (rec31 : Nat → Int64 → Int32 → Int32 → Int32 → mH → Option (Int64 × mH)) (b0 : Nat) (b1 : Int64) (b3 : Int32) (b4 : Int32) (b5 : Int32) (h : mH) : Option (Int64 × mH) :=
  rec31 b0 b1 b3 b4 (b5 + (1 : Int32)) h
set_option maxRecDepth 20000 in
theorem t_Tables_sumOfDue_87 {sc : Nat × (Nat → Int32)} (rec4 : Nat → Int64 → Int32 → mH → Option (Int64 × mH)) (hrec4 : ∀ (b0 : Nat) (b1 : Int64) (b3 : Int32) (h : mH) (r : Int64) (h' : mH), rec4 b0 b1 b3 h = some (r, h') → G sc y_Tables_sumOfDue prog_8_method_9_code 6 (some .long) 1 22 4 [(0, .ref b0), (1, .long b1), (3, .int b3)] [] h (some (.long r)) h') (rec17 : Nat → Int64 → Int32 → Int32 → mH → Option (Int64 × mH)) (hrec17 : ∀ (b0 : Nat) (b1 : Int64) (b3 : Int32) (b4 : Int32) (h : mH) (r : Int64) (h' : mH), rec17 b0 b1 b3 b4 h = some (r, h') → G sc y_Tables_sumOfDue prog_8_method_9_code 6 (some .long) 1 22 17 [(0, .ref b0), (1, .long b1), (3, .int b3), (4, .int b4)] [] h (some (.long r)) h') (rec31 : Nat → Int64 → Int32 → Int32 → Int32 → mH → Option (Int64 × mH)) (hrec31 : ∀ (b0 : Nat) (b1 : Int64) (b3 : Int32) (b4 : Int32) (b5 : Int32) (h : mH) (r : Int64) (h' : mH), rec31 b0 b1 b3 b4 b5 h = some (r, h') → G sc y_Tables_sumOfDue prog_8_method_9_code 6 (some .long) 1 22 31 [(0, .ref b0), (1, .long b1), (3, .int b3), (4, .int b4), (5, .int b5)] [] h (some (.long r)) h') (b0 : Nat) (b1 : Int64) (b3 : Int32) (b4 : Int32) (b5 : Int32) (h : mH) (r : Int64) (h' : mH) (hf : f_Tables_sumOfDue_87 rec4 rec17 rec31 b0 b1 b3 b4 b5 h = some (r, h')) : G sc y_Tables_sumOfDue prog_8_method_9_code 6 (some .long) 1 22 87 [(0, .ref b0), (1, .long b1), (3, .int b3), (4, .int b4), (5, .int b5)] [] h (some (.long r)) h' := by
  unfold f_Tables_sumOfDue_87 at hf
  refine g_iinc (pc := 87) 4 (b5 + (1 : Int32)) [(5, .int (b5 + (1 : Int32))), (0, .ref b0), (1, .long b1), (3, .int b3), (4, .int b4)] dd_Tables_sumOfDue_84.2.2.2.1 rfl rfl (Nat.le_of_ble_eq_true rfl) rfl ?_
  refine g_goto (pc := 90) 31 dd_Tables_sumOfDue_84.2.2.2.2.1 (by decide) ?_
  refine g_lv [1, 2, 3, 4, 0] rfl ?_
  exact hrec31 _ _ _ _ _ _ _ _  hf
def f_Tables_sumOfDue_31b (rec4 : Nat → Int64 → Int32 → mH → Option (Int64 × mH)) (rec17 : Nat → Int64 → Int32 → Int32 → mH → Option (Int64 × mH)) (rec31 : Nat → Int64 → Int32 → Int32 → Int32 → mH → Option (Int64 × mH)) (b0 : Nat) (b1 : Int64) (b3 : Int32) (b4 : Int32) (b5 : Int32) (h : mH) : Option (Int64 × mH) :=
  bd1 (gR h b0 7 5) fun x11 =>
  bd1 (aI h 0 x11 (2 : Int32)) fun x13 =>
  if x13 < b5 then
    rec17 b0 b1 b3 (b4 + (1 : Int32)) h
  else
    bd1 (kC h b0 7) fun _ =>
    bd2 (f_Tables_isDueOf b0 (0 : Int32) b3 h) fun x19 h17 =>
    if x19 = 0 then
      f_Tables_sumOfDue_87 rec4 rec17 rec31 b0 b1 b3 b4 b5 h17
    else
      bd1 (kC h17 b0 7) fun _ =>
      bd2 (f_Tables_isDueOf b0 (1 : Int32) b4 h17) fun x24 h22 =>
      if x24 = 0 then
        f_Tables_sumOfDue_87 rec4 rec17 rec31 b0 b1 b3 b4 b5 h22
      else
        bd1 (kC h22 b0 7) fun _ =>
        bd2 (f_Tables_isDueOf b0 (2 : Int32) b5 h22) fun x29 h27 =>
        if x29 = 0 then
          f_Tables_sumOfDue_87 rec4 rec17 rec31 b0 b1 b3 b4 b5 h27
        else
          bd1 (gR h27 b0 7 7) fun x30 =>
          bd2 (f_Tables_stateOf b3 b4 b5 h27) fun x34 h32 =>
          bd1 (aL h32 x30 x34) fun x35 =>
          f_Tables_sumOfDue_87 rec4 rec17 rec31 b0 (b1 + x35) b3 b4 b5 h32
set_option maxRecDepth 20000 in
theorem t_Tables_sumOfDue_31b {sc : Nat × (Nat → Int32)} (rec4 : Nat → Int64 → Int32 → mH → Option (Int64 × mH)) (hrec4 : ∀ (b0 : Nat) (b1 : Int64) (b3 : Int32) (h : mH) (r : Int64) (h' : mH), rec4 b0 b1 b3 h = some (r, h') → G sc y_Tables_sumOfDue prog_8_method_9_code 6 (some .long) 1 22 4 [(0, .ref b0), (1, .long b1), (3, .int b3)] [] h (some (.long r)) h') (rec17 : Nat → Int64 → Int32 → Int32 → mH → Option (Int64 × mH)) (hrec17 : ∀ (b0 : Nat) (b1 : Int64) (b3 : Int32) (b4 : Int32) (h : mH) (r : Int64) (h' : mH), rec17 b0 b1 b3 b4 h = some (r, h') → G sc y_Tables_sumOfDue prog_8_method_9_code 6 (some .long) 1 22 17 [(0, .ref b0), (1, .long b1), (3, .int b3), (4, .int b4)] [] h (some (.long r)) h') (rec31 : Nat → Int64 → Int32 → Int32 → Int32 → mH → Option (Int64 × mH)) (hrec31 : ∀ (b0 : Nat) (b1 : Int64) (b3 : Int32) (b4 : Int32) (b5 : Int32) (h : mH) (r : Int64) (h' : mH), rec31 b0 b1 b3 b4 b5 h = some (r, h') → G sc y_Tables_sumOfDue prog_8_method_9_code 6 (some .long) 1 22 31 [(0, .ref b0), (1, .long b1), (3, .int b3), (4, .int b4), (5, .int b5)] [] h (some (.long r)) h') (b0 : Nat) (b1 : Int64) (b3 : Int32) (b4 : Int32) (b5 : Int32) (h : mH) (r : Int64) (h' : mH) (hf : f_Tables_sumOfDue_31b rec4 rec17 rec31 b0 b1 b3 b4 b5 h = some (r, h')) : G sc y_Tables_sumOfDue prog_8_method_9_code 6 (some .long) 1 22 31 [(0, .ref b0), (1, .long b1), (3, .int b3), (4, .int b4), (5, .int b5)] [] h (some (.long r)) h' := by
  unfold f_Tables_sumOfDue_31b at hf
  refine g_iload (pc := 31) 4 dd_Tables_sumOfDue_0.2.2.2.2.2.2.2.2.2.2.2.2.2.2.2.2.2.2.2.2.1 rfl ?_
  refine g_aload_n (pc := 33) 0 dd_Tables_sumOfDue_0.2.2.2.2.2.2.2.2.2.2.2.2.2.2.2.2.2.2.2.2.2.1 rfl rfl ?_
  obtain ⟨x11, e12, hf⟩ := bd1_e hf
  refine g_get (pc := 34) (ci := 7) (kk := 5) dd_Tables_sumOfDue_0.2.2.2.2.2.2.2.2.2.2.2.2.2.2.2.2.2.2.2.2.2.2.1 rfl in_Tables (by decide) wd_241 (gR_spec e12) ?_
  refine g_iconst (pc := 37) (2 : Int32) dd_Tables_sumOfDue_0.2.2.2.2.2.2.2.2.2.2.2.2.2.2.2.2.2.2.2.2.2.2.2 (by decide) ?_
  obtain ⟨x13, e14, hf⟩ := bd1_e hf
  refine g_iald (pc := 38) dd_Tables_sumOfDue_38.1 e14 ?_
  refine g_icmpgt (pc := 39) 93 dd_Tables_sumOfDue_38.2.1 (by decide) (fun c40 => ?_) (fun c40 => ?_)
  · replace hf := (if_pos c40).symm.trans hf
    refine g_iinc (pc := 93) 3 (b4 + (1 : Int32)) [(4, .int (b4 + (1 : Int32))), (0, .ref b0), (1, .long b1), (3, .int b3), (5, .int b5)] dd_Tables_sumOfDue_84.2.2.2.2.2.1 rfl rfl (Nat.le_of_ble_eq_true rfl) rfl ?_
    refine g_goto (pc := 96) 17 dd_Tables_sumOfDue_84.2.2.2.2.2.2.1 (by decide) ?_
    refine g_lv [1, 2, 3, 0] rfl ?_
    exact hrec17 _ _ _ _ _ _ _  hf
  · replace hf := (if_neg c40).symm.trans hf
    refine g_aload_n (pc := 42) 0 dd_Tables_sumOfDue_38.2.2.1 rfl rfl ?_
    refine g_iconst (pc := 43) (0 : Int32) dd_Tables_sumOfDue_38.2.2.2.1 (by decide) ?_
    refine g_iload_n (pc := 44) 2 dd_Tables_sumOfDue_38.2.2.2.2.1 rfl rfl ?_
    obtain ⟨u16, e15, hf⟩ := bd1_e hf
    obtain ⟨x19, h17, e18, hf⟩ := bd2_e hf
    refine g_callV (pc := 45) (ci := 7) [.int (0 : Int32), .int b3] (site_of si_Tables_isDueOf (by decide) (by decide)) wd_825 wd_827 wp_28 dd_Tables_sumOfDue_38.2.2.2.2.2.1 rfl e15 (Nat.le_of_ble_eq_true rfl) (fun z => absurd z si_na_Tables_isDueOf) (fun z => absurd z si_na_Tables_isDueOf) (fun z => absurd z si_na_Tables_isDueOf) (c_Tables_isDueOf e18) rfl ?_
    refine g_st [.int x19] rfl ?_
    refine g_ifeq (pc := 48) 87 dd_Tables_sumOfDue_38.2.2.2.2.2.2.1 (by decide) (fun c39 => ?_) (fun c39 => ?_)
    · replace hf := (if_pos c39).symm.trans hf
      refine g_lv [0, 1, 2, 3, 4] rfl ?_
      exact t_Tables_sumOfDue_87 rec4 hrec4 rec17 hrec17 rec31 hrec31 _ _ _ _ _ _ _ _  hf
    · replace hf := (if_neg c39).symm.trans hf
      refine g_aload_n (pc := 51) 0 dd_Tables_sumOfDue_38.2.2.2.2.2.2.2.1 rfl rfl ?_
      refine g_iconst (pc := 52) (1 : Int32) dd_Tables_sumOfDue_38.2.2.2.2.2.2.2.2.1 (by decide) ?_
      refine g_iload (pc := 53) 3 dd_Tables_sumOfDue_38.2.2.2.2.2.2.2.2.2.1 rfl ?_
      obtain ⟨u21, e20, hf⟩ := bd1_e hf
      obtain ⟨x24, h22, e23, hf⟩ := bd2_e hf
      refine g_callV (pc := 55) (ci := 7) [.int (1 : Int32), .int b4] (site_of si_Tables_isDueOf (by decide) (by decide)) wd_825 wd_827 wp_28 dd_Tables_sumOfDue_38.2.2.2.2.2.2.2.2.2.2.1 rfl e20 (Nat.le_of_ble_eq_true rfl) (fun z => absurd z si_na_Tables_isDueOf) (fun z => absurd z si_na_Tables_isDueOf) (fun z => absurd z si_na_Tables_isDueOf) (c_Tables_isDueOf e23) rfl ?_
      refine g_st [.int x24] rfl ?_
      refine g_ifeq (pc := 58) 87 dd_Tables_sumOfDue_38.2.2.2.2.2.2.2.2.2.2.2.1 (by decide) (fun c38 => ?_) (fun c38 => ?_)
      · replace hf := (if_pos c38).symm.trans hf
        refine g_lv [0, 1, 2, 3, 4] rfl ?_
        exact t_Tables_sumOfDue_87 rec4 hrec4 rec17 hrec17 rec31 hrec31 _ _ _ _ _ _ _ _  hf
      · replace hf := (if_neg c38).symm.trans hf
        refine g_aload_n (pc := 61) 0 dd_Tables_sumOfDue_38.2.2.2.2.2.2.2.2.2.2.2.2.1 rfl rfl ?_
        refine g_iconst (pc := 62) (2 : Int32) dd_Tables_sumOfDue_38.2.2.2.2.2.2.2.2.2.2.2.2.2.1 (by decide) ?_
        refine g_iload (pc := 63) 4 dd_Tables_sumOfDue_38.2.2.2.2.2.2.2.2.2.2.2.2.2.2.1 rfl ?_
        obtain ⟨u26, e25, hf⟩ := bd1_e hf
        obtain ⟨x29, h27, e28, hf⟩ := bd2_e hf
        refine g_callV (pc := 65) (ci := 7) [.int (2 : Int32), .int b5] (site_of si_Tables_isDueOf (by decide) (by decide)) wd_825 wd_827 wp_28 dd_Tables_sumOfDue_38.2.2.2.2.2.2.2.2.2.2.2.2.2.2.2.1 rfl e25 (Nat.le_of_ble_eq_true rfl) (fun z => absurd z si_na_Tables_isDueOf) (fun z => absurd z si_na_Tables_isDueOf) (fun z => absurd z si_na_Tables_isDueOf) (c_Tables_isDueOf e28) rfl ?_
        refine g_st [.int x29] rfl ?_
        refine g_ifeq (pc := 68) 87 dd_Tables_sumOfDue_38.2.2.2.2.2.2.2.2.2.2.2.2.2.2.2.2.1 (by decide) (fun c37 => ?_) (fun c37 => ?_)
        · replace hf := (if_pos c37).symm.trans hf
          refine g_lv [0, 1, 2, 3, 4] rfl ?_
          exact t_Tables_sumOfDue_87 rec4 hrec4 rec17 hrec17 rec31 hrec31 _ _ _ _ _ _ _ _  hf
        · replace hf := (if_neg c37).symm.trans hf
          refine g_lload_n (pc := 71) 1 dd_Tables_sumOfDue_38.2.2.2.2.2.2.2.2.2.2.2.2.2.2.2.2.2.1 rfl rfl ?_
          refine g_aload_n (pc := 72) 0 dd_Tables_sumOfDue_38.2.2.2.2.2.2.2.2.2.2.2.2.2.2.2.2.2.2.1 rfl rfl ?_
          obtain ⟨x30, e31, hf⟩ := bd1_e hf
          refine g_get (pc := 73) (ci := 7) (kk := 7) dd_Tables_sumOfDue_38.2.2.2.2.2.2.2.2.2.2.2.2.2.2.2.2.2.2.2.1 rfl in_Tables (by decide) wd_243 (gR_spec e31) ?_
          refine g_iload_n (pc := 76) 2 dd_Tables_sumOfDue_38.2.2.2.2.2.2.2.2.2.2.2.2.2.2.2.2.2.2.2.2.1 rfl rfl ?_
          refine g_iload (pc := 77) 3 dd_Tables_sumOfDue_38.2.2.2.2.2.2.2.2.2.2.2.2.2.2.2.2.2.2.2.2.2.1 rfl ?_
          refine g_iload (pc := 79) 4 dd_Tables_sumOfDue_38.2.2.2.2.2.2.2.2.2.2.2.2.2.2.2.2.2.2.2.2.2.2.1 rfl ?_
          obtain ⟨x34, h32, e33, hf⟩ := bd2_e hf
          refine g_callS (pc := 81) [.int b3, .int b4, .int b5] (site_of si_Tables_stateOf (by decide) (by decide)) wd_808 wd_809 dd_Tables_sumOfDue_38.2.2.2.2.2.2.2.2.2.2.2.2.2.2.2.2.2.2.2.2.2.2.2 (Nat.le_of_ble_eq_true rfl) (fun z => absurd z si_na_Tables_stateOf) (fun z => absurd z si_na_Tables_stateOf) (fun z => absurd z si_na_Tables_stateOf) (c_Tables_stateOf e33) rfl ?_
          refine g_st [.int x34, .ref x30, .long b1] rfl ?_
          obtain ⟨x35, e36, hf⟩ := bd1_e hf
          refine g_lald (pc := 84) dd_Tables_sumOfDue_84.1 e36 ?_
          refine g_ladd (pc := 85) dd_Tables_sumOfDue_84.2.1 ?_
          refine g_lstore_n (pc := 86) [(1, .long (b1 + x35)), (0, .ref b0), (3, .int b3), (4, .int b4), (5, .int b5)] dd_Tables_sumOfDue_84.2.2.1 rfl (Nat.le_of_ble_eq_true rfl) rfl ?_
          refine g_lv [1, 0, 2, 3, 4] rfl ?_
          exact t_Tables_sumOfDue_87 rec4 hrec4 rec17 hrec17 rec31 hrec31 _ _ _ _ _ _ _ _  hf
def f_Tables_sumOfDue_31 (rec4 : Nat → Int64 → Int32 → mH → Option (Int64 × mH)) (rec17 : Nat → Int64 → Int32 → Int32 → mH → Option (Int64 × mH)) : Nat → Nat → Int64 → Int32 → Int32 → Int32 → mH → Option (Int64 × mH)
  | 0 => fun _ _ _ _ _ _ => none
  | n + 1 => f_Tables_sumOfDue_31b rec4 rec17 (f_Tables_sumOfDue_31 rec4 rec17 n)
theorem t_Tables_sumOfDue_31 {sc : Nat × (Nat → Int32)} (rec4 : Nat → Int64 → Int32 → mH → Option (Int64 × mH)) (hrec4 : ∀ (b0 : Nat) (b1 : Int64) (b3 : Int32) (h : mH) (r : Int64) (h' : mH), rec4 b0 b1 b3 h = some (r, h') → G sc y_Tables_sumOfDue prog_8_method_9_code 6 (some .long) 1 22 4 [(0, .ref b0), (1, .long b1), (3, .int b3)] [] h (some (.long r)) h') (rec17 : Nat → Int64 → Int32 → Int32 → mH → Option (Int64 × mH)) (hrec17 : ∀ (b0 : Nat) (b1 : Int64) (b3 : Int32) (b4 : Int32) (h : mH) (r : Int64) (h' : mH), rec17 b0 b1 b3 b4 h = some (r, h') → G sc y_Tables_sumOfDue prog_8_method_9_code 6 (some .long) 1 22 17 [(0, .ref b0), (1, .long b1), (3, .int b3), (4, .int b4)] [] h (some (.long r)) h') : ∀ (n : Nat) (b0 : Nat) (b1 : Int64) (b3 : Int32) (b4 : Int32) (b5 : Int32) (h : mH) (r : Int64) (h' : mH) (hf : f_Tables_sumOfDue_31 rec4 rec17 n b0 b1 b3 b4 b5 h = some (r, h')), G sc y_Tables_sumOfDue prog_8_method_9_code 6 (some .long) 1 22 31 [(0, .ref b0), (1, .long b1), (3, .int b3), (4, .int b4), (5, .int b5)] [] h (some (.long r)) h'
  | 0, _, _, _, _, _, _, _, _, hf => by cases hf
  | n + 1, _, _, _, _, _, _, _, _, hf => t_Tables_sumOfDue_31b rec4 hrec4 rec17 hrec17 (f_Tables_sumOfDue_31 rec4 rec17 n) (t_Tables_sumOfDue_31 rec4 hrec4 rec17 hrec17 n) _ _ _ _ _ _ _ _ hf
def f_Tables_sumOfDue_17b (rec4 : Nat → Int64 → Int32 → mH → Option (Int64 × mH)) (rec17 : Nat → Int64 → Int32 → Int32 → mH → Option (Int64 × mH)) (b0 : Nat) (b1 : Int64) (b3 : Int32) (b4 : Int32) (h : mH) : Option (Int64 × mH) :=
  bd1 (gR h b0 7 5) fun x6 =>
  bd1 (aI h 0 x6 (1 : Int32)) fun x8 =>
  if x8 < b4 then
    rec4 b0 b1 (b3 + (1 : Int32)) h
  else
    f_Tables_sumOfDue_31 rec4 rec17 FU b0 b1 b3 b4 (0 : Int32) h
set_option maxRecDepth 20000 in
theorem t_Tables_sumOfDue_17b {sc : Nat × (Nat → Int32)} (rec4 : Nat → Int64 → Int32 → mH → Option (Int64 × mH)) (hrec4 : ∀ (b0 : Nat) (b1 : Int64) (b3 : Int32) (h : mH) (r : Int64) (h' : mH), rec4 b0 b1 b3 h = some (r, h') → G sc y_Tables_sumOfDue prog_8_method_9_code 6 (some .long) 1 22 4 [(0, .ref b0), (1, .long b1), (3, .int b3)] [] h (some (.long r)) h') (rec17 : Nat → Int64 → Int32 → Int32 → mH → Option (Int64 × mH)) (hrec17 : ∀ (b0 : Nat) (b1 : Int64) (b3 : Int32) (b4 : Int32) (h : mH) (r : Int64) (h' : mH), rec17 b0 b1 b3 b4 h = some (r, h') → G sc y_Tables_sumOfDue prog_8_method_9_code 6 (some .long) 1 22 17 [(0, .ref b0), (1, .long b1), (3, .int b3), (4, .int b4)] [] h (some (.long r)) h') (b0 : Nat) (b1 : Int64) (b3 : Int32) (b4 : Int32) (h : mH) (r : Int64) (h' : mH) (hf : f_Tables_sumOfDue_17b rec4 rec17 b0 b1 b3 b4 h = some (r, h')) : G sc y_Tables_sumOfDue prog_8_method_9_code 6 (some .long) 1 22 17 [(0, .ref b0), (1, .long b1), (3, .int b3), (4, .int b4)] [] h (some (.long r)) h' := by
  unfold f_Tables_sumOfDue_17b at hf
  refine g_iload (pc := 17) 3 dd_Tables_sumOfDue_0.2.2.2.2.2.2.2.2.2.2.2.2.1 rfl ?_
  refine g_aload_n (pc := 19) 0 dd_Tables_sumOfDue_0.2.2.2.2.2.2.2.2.2.2.2.2.2.1 rfl rfl ?_
  obtain ⟨x6, e7, hf⟩ := bd1_e hf
  refine g_get (pc := 20) (ci := 7) (kk := 5) dd_Tables_sumOfDue_0.2.2.2.2.2.2.2.2.2.2.2.2.2.2.1 rfl in_Tables (by decide) wd_241 (gR_spec e7) ?_
  refine g_iconst (pc := 23) (1 : Int32) dd_Tables_sumOfDue_0.2.2.2.2.2.2.2.2.2.2.2.2.2.2.2.1 (by decide) ?_
  obtain ⟨x8, e9, hf⟩ := bd1_e hf
  refine g_iald (pc := 24) dd_Tables_sumOfDue_0.2.2.2.2.2.2.2.2.2.2.2.2.2.2.2.2.1 e9 ?_
  refine g_icmpgt (pc := 25) 99 dd_Tables_sumOfDue_0.2.2.2.2.2.2.2.2.2.2.2.2.2.2.2.2.2.1 (by decide) (fun c10 => ?_) (fun c10 => ?_)
  · replace hf := (if_pos c10).symm.trans hf
    refine g_iinc (pc := 99) 2 (b3 + (1 : Int32)) [(3, .int (b3 + (1 : Int32))), (0, .ref b0), (1, .long b1), (4, .int b4)] dd_Tables_sumOfDue_84.2.2.2.2.2.2.2.1 rfl rfl (Nat.le_of_ble_eq_true rfl) rfl ?_
    refine g_goto (pc := 102) 4 dd_Tables_sumOfDue_84.2.2.2.2.2.2.2.2.1 (by decide) ?_
    refine g_lv [1, 2, 0] rfl ?_
    exact hrec4 _ _ _ _ _ _  hf
  · replace hf := (if_neg c10).symm.trans hf
    refine g_iconst (pc := 28) (0 : Int32) dd_Tables_sumOfDue_0.2.2.2.2.2.2.2.2.2.2.2.2.2.2.2.2.2.2.1 (by decide) ?_
    refine g_istore (pc := 29) [(5, .int (0 : Int32)), (0, .ref b0), (1, .long b1), (3, .int b3), (4, .int b4)] dd_Tables_sumOfDue_0.2.2.2.2.2.2.2.2.2.2.2.2.2.2.2.2.2.2.2.1 (Nat.le_of_ble_eq_true rfl) rfl ?_
    refine g_lv [1, 2, 3, 4, 0] rfl ?_
    exact t_Tables_sumOfDue_31 rec4 hrec4 rec17 hrec17 FU _ _ _ _ _ _ _ _  hf
def f_Tables_sumOfDue_17 (rec4 : Nat → Int64 → Int32 → mH → Option (Int64 × mH)) : Nat → Nat → Int64 → Int32 → Int32 → mH → Option (Int64 × mH)
  | 0 => fun _ _ _ _ _ => none
  | n + 1 => f_Tables_sumOfDue_17b rec4 (f_Tables_sumOfDue_17 rec4 n)
theorem t_Tables_sumOfDue_17 {sc : Nat × (Nat → Int32)} (rec4 : Nat → Int64 → Int32 → mH → Option (Int64 × mH)) (hrec4 : ∀ (b0 : Nat) (b1 : Int64) (b3 : Int32) (h : mH) (r : Int64) (h' : mH), rec4 b0 b1 b3 h = some (r, h') → G sc y_Tables_sumOfDue prog_8_method_9_code 6 (some .long) 1 22 4 [(0, .ref b0), (1, .long b1), (3, .int b3)] [] h (some (.long r)) h') : ∀ (n : Nat) (b0 : Nat) (b1 : Int64) (b3 : Int32) (b4 : Int32) (h : mH) (r : Int64) (h' : mH) (hf : f_Tables_sumOfDue_17 rec4 n b0 b1 b3 b4 h = some (r, h')), G sc y_Tables_sumOfDue prog_8_method_9_code 6 (some .long) 1 22 17 [(0, .ref b0), (1, .long b1), (3, .int b3), (4, .int b4)] [] h (some (.long r)) h'
  | 0, _, _, _, _, _, _, _, hf => by cases hf
  | n + 1, _, _, _, _, _, _, _, hf => t_Tables_sumOfDue_17b rec4 hrec4 (f_Tables_sumOfDue_17 rec4 n) (t_Tables_sumOfDue_17 rec4 hrec4 n) _ _ _ _ _ _ _ hf
def f_Tables_sumOfDue_4b (rec4 : Nat → Int64 → Int32 → mH → Option (Int64 × mH)) (b0 : Nat) (b1 : Int64) (b3 : Int32) (h : mH) : Option (Int64 × mH) :=
  bd1 (gR h b0 7 5) fun x1 =>
  bd1 (aI h 0 x1 (0 : Int32)) fun x3 =>
  if x3 < b3 then
    some (b1, h)
  else
    f_Tables_sumOfDue_17 rec4 FU b0 b1 b3 (0 : Int32) h
set_option maxRecDepth 20000 in
theorem t_Tables_sumOfDue_4b {sc : Nat × (Nat → Int32)} (rec4 : Nat → Int64 → Int32 → mH → Option (Int64 × mH)) (hrec4 : ∀ (b0 : Nat) (b1 : Int64) (b3 : Int32) (h : mH) (r : Int64) (h' : mH), rec4 b0 b1 b3 h = some (r, h') → G sc y_Tables_sumOfDue prog_8_method_9_code 6 (some .long) 1 22 4 [(0, .ref b0), (1, .long b1), (3, .int b3)] [] h (some (.long r)) h') (b0 : Nat) (b1 : Int64) (b3 : Int32) (h : mH) (r : Int64) (h' : mH) (hf : f_Tables_sumOfDue_4b rec4 b0 b1 b3 h = some (r, h')) : G sc y_Tables_sumOfDue prog_8_method_9_code 6 (some .long) 1 22 4 [(0, .ref b0), (1, .long b1), (3, .int b3)] [] h (some (.long r)) h' := by
  unfold f_Tables_sumOfDue_4b at hf
  refine g_iload_n (pc := 4) 2 dd_Tables_sumOfDue_0.2.2.2.2.1 rfl rfl ?_
  refine g_aload_n (pc := 5) 0 dd_Tables_sumOfDue_0.2.2.2.2.2.1 rfl rfl ?_
  obtain ⟨x1, e2, hf⟩ := bd1_e hf
  refine g_get (pc := 6) (ci := 7) (kk := 5) dd_Tables_sumOfDue_0.2.2.2.2.2.2.1 rfl in_Tables (by decide) wd_241 (gR_spec e2) ?_
  refine g_iconst (pc := 9) (0 : Int32) dd_Tables_sumOfDue_0.2.2.2.2.2.2.2.1 (by decide) ?_
  obtain ⟨x3, e4, hf⟩ := bd1_e hf
  refine g_iald (pc := 10) dd_Tables_sumOfDue_0.2.2.2.2.2.2.2.2.1 e4 ?_
  refine g_icmpgt (pc := 11) 105 dd_Tables_sumOfDue_0.2.2.2.2.2.2.2.2.2.1 (by decide) (fun c5 => ?_) (fun c5 => ?_)
  · replace hf := (if_pos c5).symm.trans hf
    refine g_lload_n (pc := 105) 1 dd_Tables_sumOfDue_84.2.2.2.2.2.2.2.2.2.1 rfl rfl ?_
    obtain ⟨rfl, rfl⟩ := ret2 hf
    exact g_lret (pc := 106) rfl dd_Tables_sumOfDue_84.2.2.2.2.2.2.2.2.2.2
  · replace hf := (if_neg c5).symm.trans hf
    refine g_iconst (pc := 14) (0 : Int32) dd_Tables_sumOfDue_0.2.2.2.2.2.2.2.2.2.2.1 (by decide) ?_
    refine g_istore (pc := 15) [(4, .int (0 : Int32)), (0, .ref b0), (1, .long b1), (3, .int b3)] dd_Tables_sumOfDue_0.2.2.2.2.2.2.2.2.2.2.2.1 (Nat.le_of_ble_eq_true rfl) rfl ?_
    refine g_lv [1, 2, 3, 0] rfl ?_
    exact t_Tables_sumOfDue_17 rec4 hrec4 FU _ _ _ _ _ _ _  hf
def f_Tables_sumOfDue_4  : Nat → Nat → Int64 → Int32 → mH → Option (Int64 × mH)
  | 0 => fun _ _ _ _ => none
  | n + 1 => f_Tables_sumOfDue_4b  (f_Tables_sumOfDue_4  n)
theorem t_Tables_sumOfDue_4 {sc : Nat × (Nat → Int32)}  : ∀ (n : Nat) (b0 : Nat) (b1 : Int64) (b3 : Int32) (h : mH) (r : Int64) (h' : mH) (hf : f_Tables_sumOfDue_4  n b0 b1 b3 h = some (r, h')), G sc y_Tables_sumOfDue prog_8_method_9_code 6 (some .long) 1 22 4 [(0, .ref b0), (1, .long b1), (3, .int b3)] [] h (some (.long r)) h'
  | 0, _, _, _, _, _, _, hf => by cases hf
  | n + 1, _, _, _, _, _, _, hf => t_Tables_sumOfDue_4b  (f_Tables_sumOfDue_4  n) (t_Tables_sumOfDue_4  n) _ _ _ _ _ _ hf
def f_Tables_sumOfDue_0  (a0 : Nat) (h : mH) : Option (Int64 × mH) :=
  f_Tables_sumOfDue_4  FU a0 (0 : Int64) (0 : Int32) h
set_option maxRecDepth 20000 in
theorem t_Tables_sumOfDue_0 {sc : Nat × (Nat → Int32)}  (a0 : Nat) (h : mH) (r : Int64) (h' : mH) (hf : f_Tables_sumOfDue_0  a0 h = some (r, h')) : G sc y_Tables_sumOfDue prog_8_method_9_code 6 (some .long) 1 22 0 [(0, .ref a0)] [] h (some (.long r)) h' := by
  unfold f_Tables_sumOfDue_0 at hf
  refine g_lconst (pc := 0) (0 : Int64) dd_Tables_sumOfDue_0.1 (by decide) ?_
  refine g_lstore_n (pc := 1) [(1, .long (0 : Int64)), (0, .ref a0)] dd_Tables_sumOfDue_0.2.1 rfl (Nat.le_of_ble_eq_true rfl) rfl ?_
  refine g_iconst (pc := 2) (0 : Int32) dd_Tables_sumOfDue_0.2.2.1 (by decide) ?_
  refine g_istore_n (pc := 3) [(3, .int (0 : Int32)), (1, .long (0 : Int64)), (0, .ref a0)] dd_Tables_sumOfDue_0.2.2.2.1 rfl (Nat.le_of_ble_eq_true rfl) rfl ?_
  refine g_lv [2, 1, 0] rfl ?_
  exact t_Tables_sumOfDue_4  FU _ _ _ _ _ _  hf
def f_Tables_sumOfDue (a0 : Nat) (h : mH) : Option (Int64 × mH) := f_Tables_sumOfDue_0 a0 h
theorem c_Tables_sumOfDue {sc : Nat × (Nat → Int32)} {a0 : Nat} {h : mH} {r : Int64} {h' : mH} (hf : f_Tables_sumOfDue a0 h = some (r, h')) : MM sc y_Tables_sumOfDue prog_8_method_9_code 6 (some .long) 1 22 [.ref a0] h (some (.long r)) h' :=
  mm_of_G si_pn_Tables (Nat.le_of_ble_eq_true rfl) (t_Tables_sumOfDue_0 _ _ _ _ hf)
/-! Tables fitting ()J -/
set_option maxRecDepth 100000 in
theorem dd_Tables_fitting_0 : (decode prog_8_method_4_code 0 = .ok (.aload_n 0, 1)) ∧ (decode prog_8_method_4_code 1 = .ok (.getfield 27, 3)) ∧ (decode prog_8_method_4_code 4 = .ok (.lconst 0, 1)) ∧ (decode prog_8_method_4_code 5 = .ok (.invokestatic 76, 3)) ∧ (decode prog_8_method_4_code 8 = .ok (.iconst 0, 1)) ∧ (decode prog_8_method_4_code 9 = .ok (.istore_n 1, 1)) ∧ (decode prog_8_method_4_code 10 = .ok (.iload_n 1, 1)) ∧ (decode prog_8_method_4_code 11 = .ok (.iconst 3, 1)) ∧ (decode prog_8_method_4_code 12 = .ok (.if_icmp .ge 51, 3)) ∧ (decode prog_8_method_4_code 15 = .ok (.aload_n 0, 1)) ∧ (decode prog_8_method_4_code 16 = .ok (.getfield 27, 3)) ∧ (decode prog_8_method_4_code 19 = .ok (.iload_n 1, 1)) ∧ (decode prog_8_method_4_code 20 = .ok (.bipush 6, 2)) ∧ (decode prog_8_method_4_code 22 = .ok (.imul, 1)) ∧ (decode prog_8_method_4_code 23 = .ok (.lconst 1, 1)) ∧ (decode prog_8_method_4_code 24 = .ok (.lastore, 1)) ∧ (decode prog_8_method_4_code 25 = .ok (.iconst 0, 1)) ∧ (decode prog_8_method_4_code 26 = .ok (.istore_n 2, 1)) ∧ (decode prog_8_method_4_code 27 = .ok (.iload_n 2, 1)) ∧ (decode prog_8_method_4_code 28 = .ok (.aload_n 0, 1)) ∧ (decode prog_8_method_4_code 29 = .ok (.getfield 40, 3)) ∧ (decode prog_8_method_4_code 32 = .ok (.if_icmp .ge 25, 3)) ∧ (decode prog_8_method_4_code 35 = .ok (.aload_n 0, 1)) ∧ (decode prog_8_method_4_code 36 = .ok (.getfield 18, 3)) := by
  have h : List.drop 0 prog_8_method_4_code.data.toList = 0x2a :: _ := rfl
  refine ⟨zq_k_n 42 h rfl (zq_o_42 _), ?_⟩
  replace h := zq_nx1 (q := 1) h rfl
  refine ⟨zq_k_u2 180 (fun z => .getfield z) 27 h rfl (zq_o_180 _) (by decide +kernel), ?_⟩
  replace h := zq_nx3 (q := 4) h rfl
  refine ⟨zq_k_n 9 h rfl (zq_o_9 _), ?_⟩
  replace h := zq_nx1 (q := 5) h rfl
  refine ⟨zq_k_u2 184 (fun z => .invokestatic z) 76 h rfl (zq_o_184 _) (by decide +kernel), ?_⟩
  replace h := zq_nx3 (q := 8) h rfl
  refine ⟨zq_k_n 3 h rfl (zq_o_3 _), ?_⟩
  replace h := zq_nx1 (q := 9) h rfl
  refine ⟨zq_k_n 60 h rfl (zq_o_60 _), ?_⟩
  replace h := zq_nx1 (q := 10) h rfl
  refine ⟨zq_k_n 27 h rfl (zq_o_27 _), ?_⟩
  replace h := zq_nx1 (q := 11) h rfl
  refine ⟨zq_k_n 6 h rfl (zq_o_6 _), ?_⟩
  replace h := zq_nx1 (q := 12) h rfl
  refine ⟨zq_k_s2 162 (fun z => .if_icmp .ge z) 51 h rfl (zq_o_162 _) (by decide +kernel), ?_⟩
  replace h := zq_nx3 (q := 15) h rfl
  refine ⟨zq_k_n 42 h rfl (zq_o_42 _), ?_⟩
  replace h := zq_nx1 (q := 16) h rfl
  refine ⟨zq_k_u2 180 (fun z => .getfield z) 27 h rfl (zq_o_180 _) (by decide +kernel), ?_⟩
  replace h := zq_nx3 (q := 19) h rfl
  refine ⟨zq_k_n 27 h rfl (zq_o_27 _), ?_⟩
  replace h := zq_nx1 (q := 20) h rfl
  refine ⟨zq_k_s1 16 (fun z => .bipush z) 6 h rfl (zq_o_16 _) (by decide +kernel), ?_⟩
  replace h := zq_nx2 (q := 22) h rfl
  refine ⟨zq_k_n 104 h rfl (zq_o_104 _), ?_⟩
  replace h := zq_nx1 (q := 23) h rfl
  refine ⟨zq_k_n 10 h rfl (zq_o_10 _), ?_⟩
  replace h := zq_nx1 (q := 24) h rfl
  refine ⟨zq_k_n 80 h rfl (zq_o_80 _), ?_⟩
  replace h := zq_nx1 (q := 25) h rfl
  refine ⟨zq_k_n 3 h rfl (zq_o_3 _), ?_⟩
  replace h := zq_nx1 (q := 26) h rfl
  refine ⟨zq_k_n 61 h rfl (zq_o_61 _), ?_⟩
  replace h := zq_nx1 (q := 27) h rfl
  refine ⟨zq_k_n 28 h rfl (zq_o_28 _), ?_⟩
  replace h := zq_nx1 (q := 28) h rfl
  refine ⟨zq_k_n 42 h rfl (zq_o_42 _), ?_⟩
  replace h := zq_nx1 (q := 29) h rfl
  refine ⟨zq_k_u2 180 (fun z => .getfield z) 40 h rfl (zq_o_180 _) (by decide +kernel), ?_⟩
  replace h := zq_nx3 (q := 32) h rfl
  refine ⟨zq_k_s2 162 (fun z => .if_icmp .ge z) 25 h rfl (zq_o_162 _) (by decide +kernel), ?_⟩
  replace h := zq_nx3 (q := 35) h rfl
  refine ⟨zq_k_n 42 h rfl (zq_o_42 _), ?_⟩
  replace h := zq_nx1 (q := 36) h rfl
  exact zq_k_u2 180 (fun z => .getfield z) 18 h rfl (zq_o_180 _) (by decide +kernel)
set_option maxRecDepth 100000 in
theorem dd_Tables_fitting_39 : (decode prog_8_method_4_code 39 = .ok (.iload_n 2, 1)) ∧ (decode prog_8_method_4_code 40 = .ok (.iaload, 1)) ∧ (decode prog_8_method_4_code 41 = .ok (.iconst (-1), 1)) ∧ (decode prog_8_method_4_code 42 = .ok (.if_icmp .ne 9, 3)) ∧ (decode prog_8_method_4_code 45 = .ok (.aload_n 0, 1)) ∧ (decode prog_8_method_4_code 46 = .ok (.iload_n 1, 1)) ∧ (decode prog_8_method_4_code 47 = .ok (.iload_n 2, 1)) ∧ (decode prog_8_method_4_code 48 = .ok (.invokevirtual 79, 3)) ∧ (decode prog_8_method_4_code 51 = .ok (.iinc 2 1, 3)) ∧ (decode prog_8_method_4_code 54 = .ok (.goto (-27), 3)) ∧ (decode prog_8_method_4_code 57 = .ok (.iinc 1 1, 3)) ∧ (decode prog_8_method_4_code 60 = .ok (.goto (-50), 3)) ∧ (decode prog_8_method_4_code 63 = .ok (.aload_n 0, 1)) ∧ (decode prog_8_method_4_code 64 = .ok (.invokevirtual 83, 3)) ∧ (decode prog_8_method_4_code 67 = .ok (.iconst 0, 1)) ∧ (decode prog_8_method_4_code 68 = .ok (.istore_n 1, 1)) ∧ (decode prog_8_method_4_code 69 = .ok (.iload_n 1, 1)) ∧ (decode prog_8_method_4_code 70 = .ok (.aload_n 0, 1)) ∧ (decode prog_8_method_4_code 71 = .ok (.getfield 40, 3)) ∧ (decode prog_8_method_4_code 74 = .ok (.if_icmp .ge 24, 3)) ∧ (decode prog_8_method_4_code 77 = .ok (.aload_n 0, 1)) ∧ (decode prog_8_method_4_code 78 = .ok (.getfield 18, 3)) ∧ (decode prog_8_method_4_code 81 = .ok (.iload_n 1, 1)) ∧ (decode prog_8_method_4_code 82 = .ok (.iaload, 1)) := by
  have h : List.drop 39 prog_8_method_4_code.data.toList = 0x1c :: _ := rfl
  refine ⟨zq_k_n 28 h rfl (zq_o_28 _), ?_⟩
  replace h := zq_nx1 (q := 40) h rfl
  refine ⟨zq_k_n 46 h rfl (zq_o_46 _), ?_⟩
  replace h := zq_nx1 (q := 41) h rfl
  refine ⟨zq_k_n 2 h rfl (zq_o_2 _), ?_⟩
  replace h := zq_nx1 (q := 42) h rfl
  refine ⟨zq_k_s2 160 (fun z => .if_icmp .ne z) 9 h rfl (zq_o_160 _) (by decide +kernel), ?_⟩
  replace h := zq_nx3 (q := 45) h rfl
  refine ⟨zq_k_n 42 h rfl (zq_o_42 _), ?_⟩
  replace h := zq_nx1 (q := 46) h rfl
  refine ⟨zq_k_n 27 h rfl (zq_o_27 _), ?_⟩
  replace h := zq_nx1 (q := 47) h rfl
  refine ⟨zq_k_n 28 h rfl (zq_o_28 _), ?_⟩
  replace h := zq_nx1 (q := 48) h rfl
  refine ⟨zq_k_u2 182 (fun z => .invokevirtual z) 79 h rfl (zq_o_182 _) (by decide +kernel), ?_⟩
  replace h := zq_nx3 (q := 51) h rfl
  refine ⟨zq_k_iinc 2 1 h rfl (zq_o_132 _) (by decide +kernel) (by decide +kernel), ?_⟩
  replace h := zq_nx3 (q := 54) h rfl
  refine ⟨zq_k_s2 167 (fun z => .goto z) (-27) h rfl (zq_o_167 _) (by decide +kernel), ?_⟩
  replace h := zq_nx3 (q := 57) h rfl
  refine ⟨zq_k_iinc 1 1 h rfl (zq_o_132 _) (by decide +kernel) (by decide +kernel), ?_⟩
  replace h := zq_nx3 (q := 60) h rfl
  refine ⟨zq_k_s2 167 (fun z => .goto z) (-50) h rfl (zq_o_167 _) (by decide +kernel), ?_⟩
  replace h := zq_nx3 (q := 63) h rfl
  refine ⟨zq_k_n 42 h rfl (zq_o_42 _), ?_⟩
  replace h := zq_nx1 (q := 64) h rfl
  refine ⟨zq_k_u2 182 (fun z => .invokevirtual z) 83 h rfl (zq_o_182 _) (by decide +kernel), ?_⟩
  replace h := zq_nx3 (q := 67) h rfl
  refine ⟨zq_k_n 3 h rfl (zq_o_3 _), ?_⟩
  replace h := zq_nx1 (q := 68) h rfl
  refine ⟨zq_k_n 60 h rfl (zq_o_60 _), ?_⟩
  replace h := zq_nx1 (q := 69) h rfl
  refine ⟨zq_k_n 27 h rfl (zq_o_27 _), ?_⟩
  replace h := zq_nx1 (q := 70) h rfl
  refine ⟨zq_k_n 42 h rfl (zq_o_42 _), ?_⟩
  replace h := zq_nx1 (q := 71) h rfl
  refine ⟨zq_k_u2 180 (fun z => .getfield z) 40 h rfl (zq_o_180 _) (by decide +kernel), ?_⟩
  replace h := zq_nx3 (q := 74) h rfl
  refine ⟨zq_k_s2 162 (fun z => .if_icmp .ge z) 24 h rfl (zq_o_162 _) (by decide +kernel), ?_⟩
  replace h := zq_nx3 (q := 77) h rfl
  refine ⟨zq_k_n 42 h rfl (zq_o_42 _), ?_⟩
  replace h := zq_nx1 (q := 78) h rfl
  refine ⟨zq_k_u2 180 (fun z => .getfield z) 18 h rfl (zq_o_180 _) (by decide +kernel), ?_⟩
  replace h := zq_nx3 (q := 81) h rfl
  refine ⟨zq_k_n 27 h rfl (zq_o_27 _), ?_⟩
  replace h := zq_nx1 (q := 82) h rfl
  exact zq_k_n 46 h rfl (zq_o_46 _)
set_option maxRecDepth 100000 in
theorem dd_Tables_fitting_83 : (decode prog_8_method_4_code 83 = .ok (.iconst (-1), 1)) ∧ (decode prog_8_method_4_code 84 = .ok (.if_icmp .eq 8, 3)) ∧ (decode prog_8_method_4_code 87 = .ok (.aload_n 0, 1)) ∧ (decode prog_8_method_4_code 88 = .ok (.iload_n 1, 1)) ∧ (decode prog_8_method_4_code 89 = .ok (.invokevirtual 86, 3)) ∧ (decode prog_8_method_4_code 92 = .ok (.iinc 1 1, 3)) ∧ (decode prog_8_method_4_code 95 = .ok (.goto (-26), 3)) ∧ (decode prog_8_method_4_code 98 = .ok (.aload_n 0, 1)) ∧ (decode prog_8_method_4_code 99 = .ok (.invokevirtual 90, 3)) ∧ (decode prog_8_method_4_code 102 = .ok (.lreturn, 1)) := by
  have h : List.drop 83 prog_8_method_4_code.data.toList = 0x02 :: _ := rfl
  refine ⟨zq_k_n 2 h rfl (zq_o_2 _), ?_⟩
  replace h := zq_nx1 (q := 84) h rfl
  refine ⟨zq_k_s2 159 (fun z => .if_icmp .eq z) 8 h rfl (zq_o_159 _) (by decide +kernel), ?_⟩
  replace h := zq_nx3 (q := 87) h rfl
  refine ⟨zq_k_n 42 h rfl (zq_o_42 _), ?_⟩
  replace h := zq_nx1 (q := 88) h rfl
  refine ⟨zq_k_n 27 h rfl (zq_o_27 _), ?_⟩
  replace h := zq_nx1 (q := 89) h rfl
  refine ⟨zq_k_u2 182 (fun z => .invokevirtual z) 86 h rfl (zq_o_182 _) (by decide +kernel), ?_⟩
  replace h := zq_nx3 (q := 92) h rfl
  refine ⟨zq_k_iinc 1 1 h rfl (zq_o_132 _) (by decide +kernel) (by decide +kernel), ?_⟩
  replace h := zq_nx3 (q := 95) h rfl
  refine ⟨zq_k_s2 167 (fun z => .goto z) (-26) h rfl (zq_o_167 _) (by decide +kernel), ?_⟩
  replace h := zq_nx3 (q := 98) h rfl
  refine ⟨zq_k_n 42 h rfl (zq_o_42 _), ?_⟩
  replace h := zq_nx1 (q := 99) h rfl
  refine ⟨zq_k_u2 182 (fun z => .invokevirtual z) 90 h rfl (zq_o_182 _) (by decide +kernel), ?_⟩
  replace h := zq_nx3 (q := 102) h rfl
  exact zq_k_n 173 h rfl (zq_o_173 _)
def f_Tables_fitting_92 (rec69 : Nat → Int32 → mH → Option (Int64 × mH)) (b0 : Nat) (b1 : Int32) (h : mH) : Option (Int64 × mH) :=
  rec69 b0 (b1 + (1 : Int32)) h
set_option maxRecDepth 20000 in
theorem t_Tables_fitting_92 {sc : Nat × (Nat → Int32)} (rec69 : Nat → Int32 → mH → Option (Int64 × mH)) (hrec69 : ∀ (b0 : Nat) (b1 : Int32) (h : mH) (r : Int64) (h' : mH), rec69 b0 b1 h = some (r, h') → G sc y_Tables_fitting prog_8_method_4_code 3 (some .long) 3 78 69 [(0, .ref b0), (1, .int b1)] [] h (some (.long r)) h') (b0 : Nat) (b1 : Int32) (h : mH) (r : Int64) (h' : mH) (hf : f_Tables_fitting_92 rec69 b0 b1 h = some (r, h')) : G sc y_Tables_fitting prog_8_method_4_code 3 (some .long) 3 78 92 [(0, .ref b0), (1, .int b1)] [] h (some (.long r)) h' := by
  unfold f_Tables_fitting_92 at hf
  refine g_iinc (pc := 92) 1 (b1 + (1 : Int32)) [(1, .int (b1 + (1 : Int32))), (0, .ref b0)] dd_Tables_fitting_83.2.2.2.2.2.1 rfl rfl (Nat.le_of_ble_eq_true rfl) rfl ?_
  refine g_goto (pc := 95) 69 dd_Tables_fitting_83.2.2.2.2.2.2.1 (by decide) ?_
  refine g_lv [1, 0] rfl ?_
  exact hrec69 _ _ _ _ _  hf
def f_Tables_fitting_69b (rec69 : Nat → Int32 → mH → Option (Int64 × mH)) (b0 : Nat) (b1 : Int32) (h : mH) : Option (Int64 × mH) :=
  bd1 (gI h b0 7 0) fun x26 =>
  if x26 ≤ b1 then
    bd1 (kC h b0 7) fun _ =>
    bd2 (f_Tables_sumOfDue b0 h) fun x32 h30 =>
    some (x32, h30)
  else
    bd1 (gR h b0 7 3) fun x33 =>
    bd1 (aI h 0 x33 b1) fun x35 =>
    if x35 = ((-1) : Int32) then
      f_Tables_fitting_92 rec69 b0 b1 h
    else
      bd1 (kC h b0 7) fun _ =>
      bd1 (f_Tables_spendTogether b0 b1 h) fun h39 =>
      f_Tables_fitting_92 rec69 b0 b1 h39
set_option maxRecDepth 20000 in
theorem t_Tables_fitting_69b {sc : Nat × (Nat → Int32)} (rec69 : Nat → Int32 → mH → Option (Int64 × mH)) (hrec69 : ∀ (b0 : Nat) (b1 : Int32) (h : mH) (r : Int64) (h' : mH), rec69 b0 b1 h = some (r, h') → G sc y_Tables_fitting prog_8_method_4_code 3 (some .long) 3 78 69 [(0, .ref b0), (1, .int b1)] [] h (some (.long r)) h') (b0 : Nat) (b1 : Int32) (h : mH) (r : Int64) (h' : mH) (hf : f_Tables_fitting_69b rec69 b0 b1 h = some (r, h')) : G sc y_Tables_fitting prog_8_method_4_code 3 (some .long) 3 78 69 [(0, .ref b0), (1, .int b1)] [] h (some (.long r)) h' := by
  unfold f_Tables_fitting_69b at hf
  refine g_iload_n (pc := 69) 1 dd_Tables_fitting_39.2.2.2.2.2.2.2.2.2.2.2.2.2.2.2.2.1 rfl rfl ?_
  refine g_aload_n (pc := 70) 0 dd_Tables_fitting_39.2.2.2.2.2.2.2.2.2.2.2.2.2.2.2.2.2.1 rfl rfl ?_
  obtain ⟨x26, e27, hf⟩ := bd1_e hf
  refine g_get (pc := 71) (ci := 7) (kk := 0) dd_Tables_fitting_39.2.2.2.2.2.2.2.2.2.2.2.2.2.2.2.2.2.2.1 rfl in_Tables (by decide) wd_236 (gI_spec e27) ?_
  refine g_icmpge (pc := 74) 98 dd_Tables_fitting_39.2.2.2.2.2.2.2.2.2.2.2.2.2.2.2.2.2.2.2.1 (by decide) (fun c42 => ?_) (fun c42 => ?_)
  · replace hf := (if_pos c42).symm.trans hf
    refine g_aload_n (pc := 98) 0 dd_Tables_fitting_83.2.2.2.2.2.2.2.1 rfl rfl ?_
    obtain ⟨u29, e28, hf⟩ := bd1_e hf
    obtain ⟨x32, h30, e31, hf⟩ := bd2_e hf
    refine g_callV (pc := 99) (ci := 7) [] (site_of si_Tables_sumOfDue (by decide) (by decide)) wd_821 wd_823 wp_27 dd_Tables_fitting_83.2.2.2.2.2.2.2.2.1 rfl e28 (Nat.le_of_ble_eq_true rfl) (fun z => absurd z si_na_Tables_sumOfDue) (fun z => absurd z si_na_Tables_sumOfDue) (fun z => absurd z si_na_Tables_sumOfDue) (c_Tables_sumOfDue e31) rfl ?_
    refine g_st [.long x32] rfl ?_
    obtain ⟨rfl, rfl⟩ := ret2 hf
    exact g_lret (pc := 102) rfl dd_Tables_fitting_83.2.2.2.2.2.2.2.2.2
  · replace hf := (if_neg c42).symm.trans hf
    refine g_aload_n (pc := 77) 0 dd_Tables_fitting_39.2.2.2.2.2.2.2.2.2.2.2.2.2.2.2.2.2.2.2.2.1 rfl rfl ?_
    obtain ⟨x33, e34, hf⟩ := bd1_e hf
    refine g_get (pc := 78) (ci := 7) (kk := 3) dd_Tables_fitting_39.2.2.2.2.2.2.2.2.2.2.2.2.2.2.2.2.2.2.2.2.2.1 rfl in_Tables (by decide) wd_239 (gR_spec e34) ?_
    refine g_iload_n (pc := 81) 1 dd_Tables_fitting_39.2.2.2.2.2.2.2.2.2.2.2.2.2.2.2.2.2.2.2.2.2.2.1 rfl rfl ?_
    obtain ⟨x35, e36, hf⟩ := bd1_e hf
    refine g_iald (pc := 82) dd_Tables_fitting_39.2.2.2.2.2.2.2.2.2.2.2.2.2.2.2.2.2.2.2.2.2.2.2 e36 ?_
    refine g_iconst (pc := 83) ((-1) : Int32) dd_Tables_fitting_83.1 (by decide) ?_
    refine g_icmpeq (pc := 84) 92 dd_Tables_fitting_83.2.1 (by decide) (fun c41 => ?_) (fun c41 => ?_)
    · replace hf := (if_pos c41).symm.trans hf
      refine g_lv [0, 1] rfl ?_
      exact t_Tables_fitting_92 rec69 hrec69 _ _ _ _ _  hf
    · replace hf := (if_neg c41).symm.trans hf
      refine g_aload_n (pc := 87) 0 dd_Tables_fitting_83.2.2.1 rfl rfl ?_
      refine g_iload_n (pc := 88) 1 dd_Tables_fitting_83.2.2.2.1 rfl rfl ?_
      obtain ⟨u38, e37, hf⟩ := bd1_e hf
      obtain ⟨h39, e40, hf⟩ := bd1_e hf
      refine g_callV (pc := 89) (ci := 7) [.int b1] (site_of si_Tables_spendTogether (by decide) (by decide)) wd_811 wd_813 wp_25 dd_Tables_fitting_83.2.2.2.2.1 rfl e37 (Nat.le_of_ble_eq_true rfl) (fun z => absurd z si_na_Tables_spendTogether) (fun z => absurd z si_na_Tables_spendTogether) (fun z => absurd z si_na_Tables_spendTogether) (c_Tables_spendTogether e40) rfl ?_
      refine g_st [] rfl ?_
      refine g_lv [0, 1] rfl ?_
      exact t_Tables_fitting_92 rec69 hrec69 _ _ _ _ _  hf
def f_Tables_fitting_69  : Nat → Nat → Int32 → mH → Option (Int64 × mH)
  | 0 => fun _ _ _ => none
  | n + 1 => f_Tables_fitting_69b  (f_Tables_fitting_69  n)
theorem t_Tables_fitting_69 {sc : Nat × (Nat → Int32)}  : ∀ (n : Nat) (b0 : Nat) (b1 : Int32) (h : mH) (r : Int64) (h' : mH) (hf : f_Tables_fitting_69  n b0 b1 h = some (r, h')), G sc y_Tables_fitting prog_8_method_4_code 3 (some .long) 3 78 69 [(0, .ref b0), (1, .int b1)] [] h (some (.long r)) h'
  | 0, _, _, _, _, _, hf => by cases hf
  | n + 1, _, _, _, _, _, hf => t_Tables_fitting_69b  (f_Tables_fitting_69  n) (t_Tables_fitting_69  n) _ _ _ _ _ hf
def f_Tables_fitting_51 (rec10 : Nat → Int32 → mH → Option (Int64 × mH)) (rec27 : Nat → Int32 → Int32 → mH → Option (Int64 × mH)) (b0 : Nat) (b1 : Int32) (b2 : Int32) (h : mH) : Option (Int64 × mH) :=
  rec27 b0 b1 (b2 + (1 : Int32)) h
set_option maxRecDepth 20000 in
theorem t_Tables_fitting_51 {sc : Nat × (Nat → Int32)} (rec10 : Nat → Int32 → mH → Option (Int64 × mH)) (hrec10 : ∀ (b0 : Nat) (b1 : Int32) (h : mH) (r : Int64) (h' : mH), rec10 b0 b1 h = some (r, h') → G sc y_Tables_fitting prog_8_method_4_code 3 (some .long) 3 78 10 [(0, .ref b0), (1, .int b1)] [] h (some (.long r)) h') (rec27 : Nat → Int32 → Int32 → mH → Option (Int64 × mH)) (hrec27 : ∀ (b0 : Nat) (b1 : Int32) (b2 : Int32) (h : mH) (r : Int64) (h' : mH), rec27 b0 b1 b2 h = some (r, h') → G sc y_Tables_fitting prog_8_method_4_code 3 (some .long) 3 78 27 [(0, .ref b0), (1, .int b1), (2, .int b2)] [] h (some (.long r)) h') (b0 : Nat) (b1 : Int32) (b2 : Int32) (h : mH) (r : Int64) (h' : mH) (hf : f_Tables_fitting_51 rec10 rec27 b0 b1 b2 h = some (r, h')) : G sc y_Tables_fitting prog_8_method_4_code 3 (some .long) 3 78 51 [(0, .ref b0), (1, .int b1), (2, .int b2)] [] h (some (.long r)) h' := by
  unfold f_Tables_fitting_51 at hf
  refine g_iinc (pc := 51) 2 (b2 + (1 : Int32)) [(2, .int (b2 + (1 : Int32))), (0, .ref b0), (1, .int b1)] dd_Tables_fitting_39.2.2.2.2.2.2.2.2.1 rfl rfl (Nat.le_of_ble_eq_true rfl) rfl ?_
  refine g_goto (pc := 54) 27 dd_Tables_fitting_39.2.2.2.2.2.2.2.2.2.1 (by decide) ?_
  refine g_lv [1, 2, 0] rfl ?_
  exact hrec27 _ _ _ _ _ _  hf
def f_Tables_fitting_27b (rec10 : Nat → Int32 → mH → Option (Int64 × mH)) (rec27 : Nat → Int32 → Int32 → mH → Option (Int64 × mH)) (b0 : Nat) (b1 : Int32) (b2 : Int32) (h : mH) : Option (Int64 × mH) :=
  bd1 (gI h b0 7 0) fun x14 =>
  if x14 ≤ b2 then
    rec10 b0 (b1 + (1 : Int32)) h
  else
    bd1 (gR h b0 7 3) fun x16 =>
    bd1 (aI h 0 x16 b2) fun x18 =>
    if x18 = ((-1) : Int32) then
      bd1 (kC h b0 7) fun _ =>
      bd1 (f_Tables_spendAlone b0 b1 b2 h) fun h22 =>
      f_Tables_fitting_51 rec10 rec27 b0 b1 b2 h22
    else
      f_Tables_fitting_51 rec10 rec27 b0 b1 b2 h
set_option maxRecDepth 20000 in
theorem t_Tables_fitting_27b {sc : Nat × (Nat → Int32)} (rec10 : Nat → Int32 → mH → Option (Int64 × mH)) (hrec10 : ∀ (b0 : Nat) (b1 : Int32) (h : mH) (r : Int64) (h' : mH), rec10 b0 b1 h = some (r, h') → G sc y_Tables_fitting prog_8_method_4_code 3 (some .long) 3 78 10 [(0, .ref b0), (1, .int b1)] [] h (some (.long r)) h') (rec27 : Nat → Int32 → Int32 → mH → Option (Int64 × mH)) (hrec27 : ∀ (b0 : Nat) (b1 : Int32) (b2 : Int32) (h : mH) (r : Int64) (h' : mH), rec27 b0 b1 b2 h = some (r, h') → G sc y_Tables_fitting prog_8_method_4_code 3 (some .long) 3 78 27 [(0, .ref b0), (1, .int b1), (2, .int b2)] [] h (some (.long r)) h') (b0 : Nat) (b1 : Int32) (b2 : Int32) (h : mH) (r : Int64) (h' : mH) (hf : f_Tables_fitting_27b rec10 rec27 b0 b1 b2 h = some (r, h')) : G sc y_Tables_fitting prog_8_method_4_code 3 (some .long) 3 78 27 [(0, .ref b0), (1, .int b1), (2, .int b2)] [] h (some (.long r)) h' := by
  unfold f_Tables_fitting_27b at hf
  refine g_iload_n (pc := 27) 2 dd_Tables_fitting_0.2.2.2.2.2.2.2.2.2.2.2.2.2.2.2.2.2.2.1 rfl rfl ?_
  refine g_aload_n (pc := 28) 0 dd_Tables_fitting_0.2.2.2.2.2.2.2.2.2.2.2.2.2.2.2.2.2.2.2.1 rfl rfl ?_
  obtain ⟨x14, e15, hf⟩ := bd1_e hf
  refine g_get (pc := 29) (ci := 7) (kk := 0) dd_Tables_fitting_0.2.2.2.2.2.2.2.2.2.2.2.2.2.2.2.2.2.2.2.2.1 rfl in_Tables (by decide) wd_236 (gI_spec e15) ?_
  refine g_icmpge (pc := 32) 57 dd_Tables_fitting_0.2.2.2.2.2.2.2.2.2.2.2.2.2.2.2.2.2.2.2.2.2.1 (by decide) (fun c25 => ?_) (fun c25 => ?_)
  · replace hf := (if_pos c25).symm.trans hf
    refine g_iinc (pc := 57) 1 (b1 + (1 : Int32)) [(1, .int (b1 + (1 : Int32))), (0, .ref b0), (2, .int b2)] dd_Tables_fitting_39.2.2.2.2.2.2.2.2.2.2.1 rfl rfl (Nat.le_of_ble_eq_true rfl) rfl ?_
    refine g_goto (pc := 60) 10 dd_Tables_fitting_39.2.2.2.2.2.2.2.2.2.2.2.1 (by decide) ?_
    refine g_lv [1, 0] rfl ?_
    exact hrec10 _ _ _ _ _  hf
  · replace hf := (if_neg c25).symm.trans hf
    refine g_aload_n (pc := 35) 0 dd_Tables_fitting_0.2.2.2.2.2.2.2.2.2.2.2.2.2.2.2.2.2.2.2.2.2.2.1 rfl rfl ?_
    obtain ⟨x16, e17, hf⟩ := bd1_e hf
    refine g_get (pc := 36) (ci := 7) (kk := 3) dd_Tables_fitting_0.2.2.2.2.2.2.2.2.2.2.2.2.2.2.2.2.2.2.2.2.2.2.2 rfl in_Tables (by decide) wd_239 (gR_spec e17) ?_
    refine g_iload_n (pc := 39) 2 dd_Tables_fitting_39.1 rfl rfl ?_
    obtain ⟨x18, e19, hf⟩ := bd1_e hf
    refine g_iald (pc := 40) dd_Tables_fitting_39.2.1 e19 ?_
    refine g_iconst (pc := 41) ((-1) : Int32) dd_Tables_fitting_39.2.2.1 (by decide) ?_
    refine g_icmpne (pc := 42) 51 dd_Tables_fitting_39.2.2.2.1 (by decide) (fun c24 => ?_) (fun c24 => ?_)
    · replace hf := (if_neg c24).symm.trans hf
      refine g_lv [0, 1, 2] rfl ?_
      exact t_Tables_fitting_51 rec10 hrec10 rec27 hrec27 _ _ _ _ _ _  hf
    · replace hf := (if_pos c24).symm.trans hf
      refine g_aload_n (pc := 45) 0 dd_Tables_fitting_39.2.2.2.2.1 rfl rfl ?_
      refine g_iload_n (pc := 46) 1 dd_Tables_fitting_39.2.2.2.2.2.1 rfl rfl ?_
      refine g_iload_n (pc := 47) 2 dd_Tables_fitting_39.2.2.2.2.2.2.1 rfl rfl ?_
      obtain ⟨u21, e20, hf⟩ := bd1_e hf
      obtain ⟨h22, e23, hf⟩ := bd1_e hf
      refine g_callV (pc := 48) (ci := 7) [.int b1, .int b2] (site_of si_Tables_spendAlone (by decide) (by decide)) wd_800 wd_802 wp_23 dd_Tables_fitting_39.2.2.2.2.2.2.2.1 rfl e20 (Nat.le_of_ble_eq_true rfl) (fun z => absurd z si_na_Tables_spendAlone) (fun z => absurd z si_na_Tables_spendAlone) (fun z => absurd z si_na_Tables_spendAlone) (c_Tables_spendAlone e23) rfl ?_
      refine g_st [] rfl ?_
      refine g_lv [0, 1, 2] rfl ?_
      exact t_Tables_fitting_51 rec10 hrec10 rec27 hrec27 _ _ _ _ _ _  hf
def f_Tables_fitting_27 (rec10 : Nat → Int32 → mH → Option (Int64 × mH)) : Nat → Nat → Int32 → Int32 → mH → Option (Int64 × mH)
  | 0 => fun _ _ _ _ => none
  | n + 1 => f_Tables_fitting_27b rec10 (f_Tables_fitting_27 rec10 n)
theorem t_Tables_fitting_27 {sc : Nat × (Nat → Int32)} (rec10 : Nat → Int32 → mH → Option (Int64 × mH)) (hrec10 : ∀ (b0 : Nat) (b1 : Int32) (h : mH) (r : Int64) (h' : mH), rec10 b0 b1 h = some (r, h') → G sc y_Tables_fitting prog_8_method_4_code 3 (some .long) 3 78 10 [(0, .ref b0), (1, .int b1)] [] h (some (.long r)) h') : ∀ (n : Nat) (b0 : Nat) (b1 : Int32) (b2 : Int32) (h : mH) (r : Int64) (h' : mH) (hf : f_Tables_fitting_27 rec10 n b0 b1 b2 h = some (r, h')), G sc y_Tables_fitting prog_8_method_4_code 3 (some .long) 3 78 27 [(0, .ref b0), (1, .int b1), (2, .int b2)] [] h (some (.long r)) h'
  | 0, _, _, _, _, _, _, hf => by cases hf
  | n + 1, _, _, _, _, _, _, hf => t_Tables_fitting_27b rec10 hrec10 (f_Tables_fitting_27 rec10 n) (t_Tables_fitting_27 rec10 hrec10 n) _ _ _ _ _ _ hf
def f_Tables_fitting_10b (rec10 : Nat → Int32 → mH → Option (Int64 × mH)) (b0 : Nat) (b1 : Int32) (h : mH) : Option (Int64 × mH) :=
  if (3 : Int32) ≤ b1 then
    bd1 (kC h b0 7) fun _ =>
    bd1 (f_Tables_joinAll b0 h) fun h7 =>
    f_Tables_fitting_69  FU b0 (0 : Int32) h7
  else
    bd1 (gR h b0 7 6) fun x9 =>
    bd1 (sL h x9 (b1 * (6 : Int32)) (1 : Int64)) fun h11 =>
    f_Tables_fitting_27 rec10 FU b0 b1 (0 : Int32) h11
set_option maxRecDepth 20000 in
theorem t_Tables_fitting_10b {sc : Nat × (Nat → Int32)} (rec10 : Nat → Int32 → mH → Option (Int64 × mH)) (hrec10 : ∀ (b0 : Nat) (b1 : Int32) (h : mH) (r : Int64) (h' : mH), rec10 b0 b1 h = some (r, h') → G sc y_Tables_fitting prog_8_method_4_code 3 (some .long) 3 78 10 [(0, .ref b0), (1, .int b1)] [] h (some (.long r)) h') (b0 : Nat) (b1 : Int32) (h : mH) (r : Int64) (h' : mH) (hf : f_Tables_fitting_10b rec10 b0 b1 h = some (r, h')) : G sc y_Tables_fitting prog_8_method_4_code 3 (some .long) 3 78 10 [(0, .ref b0), (1, .int b1)] [] h (some (.long r)) h' := by
  unfold f_Tables_fitting_10b at hf
  refine g_iload_n (pc := 10) 1 dd_Tables_fitting_0.2.2.2.2.2.2.1 rfl rfl ?_
  refine g_iconst (pc := 11) (3 : Int32) dd_Tables_fitting_0.2.2.2.2.2.2.2.1 (by decide) ?_
  refine g_icmpge (pc := 12) 63 dd_Tables_fitting_0.2.2.2.2.2.2.2.2.1 (by decide) (fun c13 => ?_) (fun c13 => ?_)
  · replace hf := (if_pos c13).symm.trans hf
    refine g_aload_n (pc := 63) 0 dd_Tables_fitting_39.2.2.2.2.2.2.2.2.2.2.2.2.1 rfl rfl ?_
    obtain ⟨u6, e5, hf⟩ := bd1_e hf
    obtain ⟨h7, e8, hf⟩ := bd1_e hf
    refine g_callV (pc := 64) (ci := 7) [] (site_of si_Tables_joinAll (by decide) (by decide)) wd_804 wd_806 wp_24 dd_Tables_fitting_39.2.2.2.2.2.2.2.2.2.2.2.2.2.1 rfl e5 (Nat.le_of_ble_eq_true rfl) (fun z => absurd z si_na_Tables_joinAll) (fun z => absurd z si_na_Tables_joinAll) (fun z => absurd z si_na_Tables_joinAll) (c_Tables_joinAll e8) rfl ?_
    refine g_st [] rfl ?_
    refine g_iconst (pc := 67) (0 : Int32) dd_Tables_fitting_39.2.2.2.2.2.2.2.2.2.2.2.2.2.2.1 (by decide) ?_
    refine g_istore_n (pc := 68) [(1, .int (0 : Int32)), (0, .ref b0)] dd_Tables_fitting_39.2.2.2.2.2.2.2.2.2.2.2.2.2.2.2.1 rfl (Nat.le_of_ble_eq_true rfl) rfl ?_
    refine g_lv [1, 0] rfl ?_
    exact t_Tables_fitting_69  FU _ _ _ _ _  hf
  · replace hf := (if_neg c13).symm.trans hf
    refine g_aload_n (pc := 15) 0 dd_Tables_fitting_0.2.2.2.2.2.2.2.2.2.1 rfl rfl ?_
    obtain ⟨x9, e10, hf⟩ := bd1_e hf
    refine g_get (pc := 16) (ci := 7) (kk := 6) dd_Tables_fitting_0.2.2.2.2.2.2.2.2.2.2.1 rfl in_Tables (by decide) wd_242 (gR_spec e10) ?_
    refine g_iload_n (pc := 19) 1 dd_Tables_fitting_0.2.2.2.2.2.2.2.2.2.2.2.1 rfl rfl ?_
    refine g_bipush (pc := 20) (6 : Int32) dd_Tables_fitting_0.2.2.2.2.2.2.2.2.2.2.2.2.1 (by decide) ?_
    refine g_imul (pc := 22) dd_Tables_fitting_0.2.2.2.2.2.2.2.2.2.2.2.2.2.1 ?_
    refine g_lconst (pc := 23) (1 : Int64) dd_Tables_fitting_0.2.2.2.2.2.2.2.2.2.2.2.2.2.2.1 (by decide) ?_
    obtain ⟨h11, e12, hf⟩ := bd1_e hf
    refine g_last (pc := 24) dd_Tables_fitting_0.2.2.2.2.2.2.2.2.2.2.2.2.2.2.2.1 e12 ?_
    refine g_iconst (pc := 25) (0 : Int32) dd_Tables_fitting_0.2.2.2.2.2.2.2.2.2.2.2.2.2.2.2.2.1 (by decide) ?_
    refine g_istore_n (pc := 26) [(2, .int (0 : Int32)), (0, .ref b0), (1, .int b1)] dd_Tables_fitting_0.2.2.2.2.2.2.2.2.2.2.2.2.2.2.2.2.2.1 rfl (Nat.le_of_ble_eq_true rfl) rfl ?_
    refine g_lv [1, 2, 0] rfl ?_
    exact t_Tables_fitting_27 rec10 hrec10 FU _ _ _ _ _ _  hf
def f_Tables_fitting_10  : Nat → Nat → Int32 → mH → Option (Int64 × mH)
  | 0 => fun _ _ _ => none
  | n + 1 => f_Tables_fitting_10b  (f_Tables_fitting_10  n)
theorem t_Tables_fitting_10 {sc : Nat × (Nat → Int32)}  : ∀ (n : Nat) (b0 : Nat) (b1 : Int32) (h : mH) (r : Int64) (h' : mH) (hf : f_Tables_fitting_10  n b0 b1 h = some (r, h')), G sc y_Tables_fitting prog_8_method_4_code 3 (some .long) 3 78 10 [(0, .ref b0), (1, .int b1)] [] h (some (.long r)) h'
  | 0, _, _, _, _, _, hf => by cases hf
  | n + 1, _, _, _, _, _, hf => t_Tables_fitting_10b  (f_Tables_fitting_10  n) (t_Tables_fitting_10  n) _ _ _ _ _ hf
def f_Tables_fitting_0  (a0 : Nat) (h : mH) : Option (Int64 × mH) :=
  bd1 (gR h a0 7 6) fun x1 =>
  bd1 (f_Arrays_fillJ x1 (0 : Int64) h) fun h3 =>
  f_Tables_fitting_10  FU a0 (0 : Int32) h3
set_option maxRecDepth 20000 in
theorem t_Tables_fitting_0 {sc : Nat × (Nat → Int32)}  (a0 : Nat) (h : mH) (r : Int64) (h' : mH) (hf : f_Tables_fitting_0  a0 h = some (r, h')) : G sc y_Tables_fitting prog_8_method_4_code 3 (some .long) 3 78 0 [(0, .ref a0)] [] h (some (.long r)) h' := by
  unfold f_Tables_fitting_0 at hf
  refine g_aload_n (pc := 0) 0 dd_Tables_fitting_0.1 rfl rfl ?_
  obtain ⟨x1, e2, hf⟩ := bd1_e hf
  refine g_get (pc := 1) (ci := 7) (kk := 6) dd_Tables_fitting_0.2.1 rfl in_Tables (by decide) wd_242 (gR_spec e2) ?_
  refine g_lconst (pc := 4) (0 : Int64) dd_Tables_fitting_0.2.2.1 (by decide) ?_
  obtain ⟨h3, e4, hf⟩ := bd1_e hf
  refine g_callS (pc := 5) [.ref x1, .long (0 : Int64)] (site_of si_Arrays_fillJ (by decide) (by decide)) wd_799 wd_755 dd_Tables_fitting_0.2.2.2.1 (Nat.le_of_ble_eq_true rfl) (fun z => absurd z si_na_Arrays_fillJ) (fun z => absurd z si_na_Arrays_fillJ) (fun z => absurd z si_na_Arrays_fillJ) (c_Arrays_fillJ e4) rfl ?_
  refine g_st [] rfl ?_
  refine g_iconst (pc := 8) (0 : Int32) dd_Tables_fitting_0.2.2.2.2.1 (by decide) ?_
  refine g_istore_n (pc := 9) [(1, .int (0 : Int32)), (0, .ref a0)] dd_Tables_fitting_0.2.2.2.2.2.1 rfl (Nat.le_of_ble_eq_true rfl) rfl ?_
  refine g_lv [1, 0] rfl ?_
  exact t_Tables_fitting_10  FU _ _ _ _ _  hf
def f_Tables_fitting (a0 : Nat) (h : mH) : Option (Int64 × mH) := f_Tables_fitting_0 a0 h
theorem c_Tables_fitting {sc : Nat × (Nat → Int32)} {a0 : Nat} {h : mH} {r : Int64} {h' : mH} (hf : f_Tables_fitting a0 h = some (r, h')) : MM sc y_Tables_fitting prog_8_method_4_code 3 (some .long) 3 78 [.ref a0] h (some (.long r)) h' :=
  mm_of_G si_pn_Tables (Nat.le_of_ble_eq_true rfl) (t_Tables_fitting_0 _ _ _ _ hf)
/-! Q books ()J -/
set_option maxRecDepth 100000 in
theorem dd_Q_books_0 : (decode prog_1_method_30_code 0 = .ok (.aload_n 0, 1)) ∧ (decode prog_1_method_30_code 1 = .ok (.getfield 50, 3)) ∧ (decode prog_1_method_30_code 4 = .ok (.aload_n 0, 1)) ∧ (decode prog_1_method_30_code 5 = .ok (.getfield 19, 3)) ∧ (decode prog_1_method_30_code 8 = .ok (.invokevirtual 247, 3)) ∧ (decode prog_1_method_30_code 11 = .ok (.aload_n 0, 1)) ∧ (decode prog_1_method_30_code 12 = .ok (.getfield 50, 3)) ∧ (decode prog_1_method_30_code 15 = .ok (.invokevirtual 248, 3)) ∧ (decode prog_1_method_30_code 18 = .ok (.lreturn, 1)) := by
  have h : List.drop 0 prog_1_method_30_code.data.toList = 0x2a :: _ := rfl
  refine ⟨zq_k_n 42 h rfl (zq_o_42 _), ?_⟩
  replace h := zq_nx1 (q := 1) h rfl
  refine ⟨zq_k_u2 180 (fun z => .getfield z) 50 h rfl (zq_o_180 _) (by decide +kernel), ?_⟩
  replace h := zq_nx3 (q := 4) h rfl
  refine ⟨zq_k_n 42 h rfl (zq_o_42 _), ?_⟩
  replace h := zq_nx1 (q := 5) h rfl
  refine ⟨zq_k_u2 180 (fun z => .getfield z) 19 h rfl (zq_o_180 _) (by decide +kernel), ?_⟩
  replace h := zq_nx3 (q := 8) h rfl
  refine ⟨zq_k_u2 182 (fun z => .invokevirtual z) 247 h rfl (zq_o_182 _) (by decide +kernel), ?_⟩
  replace h := zq_nx3 (q := 11) h rfl
  refine ⟨zq_k_n 42 h rfl (zq_o_42 _), ?_⟩
  replace h := zq_nx1 (q := 12) h rfl
  refine ⟨zq_k_u2 180 (fun z => .getfield z) 50 h rfl (zq_o_180 _) (by decide +kernel), ?_⟩
  replace h := zq_nx3 (q := 15) h rfl
  refine ⟨zq_k_u2 182 (fun z => .invokevirtual z) 248 h rfl (zq_o_182 _) (by decide +kernel), ?_⟩
  replace h := zq_nx3 (q := 18) h rfl
  exact zq_k_n 173 h rfl (zq_o_173 _)
def f_Q_books_0  (a0 : Nat) (h : mH) : Option (Int64 × mH) :=
  bd1 (gR h a0 0 7) fun x1 =>
  bd1 (gR h a0 0 1) fun x3 =>
  bd1 (kC h x1 7) fun _ =>
  bd1 (f_Tables_load x1 x3 h) fun h7 =>
  bd1 (gR h7 a0 0 7) fun x9 =>
  bd1 (kC h7 x9 7) fun _ =>
  bd2 (f_Tables_fitting x9 h7) fun x15 h13 =>
  some (x15, h13)
set_option maxRecDepth 20000 in
theorem t_Q_books_0 {sc : Nat × (Nat → Int32)}  (a0 : Nat) (h : mH) (r : Int64) (h' : mH) (hf : f_Q_books_0  a0 h = some (r, h')) : G sc y_Q_books prog_1_method_30_code 1 (some .long) 4 100 0 [(0, .ref a0)] [] h (some (.long r)) h' := by
  unfold f_Q_books_0 at hf
  refine g_aload_n (pc := 0) 0 dd_Q_books_0.1 rfl rfl ?_
  obtain ⟨x1, e2, hf⟩ := bd1_e hf
  refine g_get (pc := 1) (ci := 0) (kk := 7) dd_Q_books_0.2.1 rfl in_Q (by decide) wd_303 (gR_spec e2) ?_
  refine g_aload_n (pc := 4) 0 dd_Q_books_0.2.2.1 rfl rfl ?_
  obtain ⟨x3, e4, hf⟩ := bd1_e hf
  refine g_get (pc := 5) (ci := 0) (kk := 1) dd_Q_books_0.2.2.2.1 rfl in_Q (by decide) wd_297 (gR_spec e4) ?_
  obtain ⟨u6, e5, hf⟩ := bd1_e hf
  obtain ⟨h7, e8, hf⟩ := bd1_e hf
  refine g_callV (pc := 8) (ci := 7) [.ref x3] (site_of si_Tables_load (by decide) (by decide)) wd_784 wd_785 wd_786 dd_Q_books_0.2.2.2.2.1 rfl e5 (Nat.le_of_ble_eq_true rfl) (fun z => absurd z si_na_Tables_load) (fun z => absurd z si_na_Tables_load) (fun z => absurd z si_na_Tables_load) (c_Tables_load e8) rfl ?_
  refine g_st [] rfl ?_
  refine g_aload_n (pc := 11) 0 dd_Q_books_0.2.2.2.2.2.1 rfl rfl ?_
  obtain ⟨x9, e10, hf⟩ := bd1_e hf
  refine g_get (pc := 12) (ci := 0) (kk := 7) dd_Q_books_0.2.2.2.2.2.2.1 rfl in_Q (by decide) wd_303 (gR_spec e10) ?_
  obtain ⟨u12, e11, hf⟩ := bd1_e hf
  obtain ⟨x15, h13, e14, hf⟩ := bd2_e hf
  refine g_callV (pc := 15) (ci := 7) [] (site_of si_Tables_fitting (by decide) (by decide)) wd_795 wd_796 wd_797 dd_Q_books_0.2.2.2.2.2.2.2.1 rfl e11 (Nat.le_of_ble_eq_true rfl) (fun z => absurd z si_na_Tables_fitting) (fun z => absurd z si_na_Tables_fitting) (fun z => absurd z si_na_Tables_fitting) (c_Tables_fitting e14) rfl ?_
  refine g_st [.long x15] rfl ?_
  obtain ⟨rfl, rfl⟩ := ret2 hf
  exact g_lret (pc := 18) rfl dd_Q_books_0.2.2.2.2.2.2.2.2
def f_Q_books (a0 : Nat) (h : mH) : Option (Int64 × mH) := f_Q_books_0 a0 h
theorem c_Q_books {sc : Nat × (Nat → Int32)} {a0 : Nat} {h : mH} {r : Int64} {h' : mH} (hf : f_Q_books a0 h = some (r, h')) : MM sc y_Q_books prog_1_method_30_code 1 (some .long) 4 100 [.ref a0] h (some (.long r)) h' :=
  mm_of_G si_pn_Q (Nat.le_of_ble_eq_true rfl) (t_Q_books_0 _ _ _ _ hf)
/-! Tables firstThatFits (IIZ)I -/
set_option maxRecDepth 100000 in
theorem dd_Tables_firstThatFits_0 : (decode prog_8_method_3_code 0 = .ok (.iload_n 1, 1)) ∧ (decode prog_8_method_3_code 1 = .ok (.iconst 5, 1)) ∧ (decode prog_8_method_3_code 2 = .ok (.imul, 1)) ∧ (decode prog_8_method_3_code 3 = .ok (.iload_n 2, 1)) ∧ (decode prog_8_method_3_code 4 = .ok (.iadd, 1)) ∧ (decode prog_8_method_3_code 5 = .ok (.istore 4, 2)) ∧ (decode prog_8_method_3_code 7 = .ok (.aload_n 0, 1)) ∧ (decode prog_8_method_3_code 8 = .ok (.getfield 15, 3)) ∧ (decode prog_8_method_3_code 11 = .ok (.iload 4, 2)) ∧ (decode prog_8_method_3_code 13 = .ok (.iaload, 1)) ∧ (decode prog_8_method_3_code 14 = .ok (.istore 5, 2)) ∧ (decode prog_8_method_3_code 16 = .ok (.iconst 0, 1)) ∧ (decode prog_8_method_3_code 17 = .ok (.istore 6, 2)) ∧ (decode prog_8_method_3_code 19 = .ok (.iload 6, 2)) ∧ (decode prog_8_method_3_code 21 = .ok (.iload 5, 2)) ∧ (decode prog_8_method_3_code 23 = .ok (.if_icmp .gt 55, 3)) ∧ (decode prog_8_method_3_code 26 = .ok (.iload_n 3, 1)) ∧ (decode prog_8_method_3_code 27 = .ok (.ifCond .eq 11, 3)) ∧ (decode prog_8_method_3_code 30 = .ok (.iload 5, 2)) ∧ (decode prog_8_method_3_code 32 = .ok (.iload 6, 2)) ∧ (decode prog_8_method_3_code 34 = .ok (.isub, 1)) ∧ (decode prog_8_method_3_code 35 = .ok (.goto 5, 3)) ∧ (decode prog_8_method_3_code 38 = .ok (.iload 6, 2)) ∧ (decode prog_8_method_3_code 40 = .ok (.istore 7, 2)) := by
  have h : List.drop 0 prog_8_method_3_code.data.toList = 0x1b :: _ := rfl
  refine ⟨zq_k_n 27 h rfl (zq_o_27 _), ?_⟩
  replace h := zq_nx1 (q := 1) h rfl
  refine ⟨zq_k_n 8 h rfl (zq_o_8 _), ?_⟩
  replace h := zq_nx1 (q := 2) h rfl
  refine ⟨zq_k_n 104 h rfl (zq_o_104 _), ?_⟩
  replace h := zq_nx1 (q := 3) h rfl
  refine ⟨zq_k_n 28 h rfl (zq_o_28 _), ?_⟩
  replace h := zq_nx1 (q := 4) h rfl
  refine ⟨zq_k_n 96 h rfl (zq_o_96 _), ?_⟩
  replace h := zq_nx1 (q := 5) h rfl
  refine ⟨zq_k_u1 54 (fun z => .istore z) 4 h rfl (zq_o_54 _) (by decide +kernel), ?_⟩
  replace h := zq_nx2 (q := 7) h rfl
  refine ⟨zq_k_n 42 h rfl (zq_o_42 _), ?_⟩
  replace h := zq_nx1 (q := 8) h rfl
  refine ⟨zq_k_u2 180 (fun z => .getfield z) 15 h rfl (zq_o_180 _) (by decide +kernel), ?_⟩
  replace h := zq_nx3 (q := 11) h rfl
  refine ⟨zq_k_u1 21 (fun z => .iload z) 4 h rfl (zq_o_21 _) (by decide +kernel), ?_⟩
  replace h := zq_nx2 (q := 13) h rfl
  refine ⟨zq_k_n 46 h rfl (zq_o_46 _), ?_⟩
  replace h := zq_nx1 (q := 14) h rfl
  refine ⟨zq_k_u1 54 (fun z => .istore z) 5 h rfl (zq_o_54 _) (by decide +kernel), ?_⟩
  replace h := zq_nx2 (q := 16) h rfl
  refine ⟨zq_k_n 3 h rfl (zq_o_3 _), ?_⟩
  replace h := zq_nx1 (q := 17) h rfl
  refine ⟨zq_k_u1 54 (fun z => .istore z) 6 h rfl (zq_o_54 _) (by decide +kernel), ?_⟩
  replace h := zq_nx2 (q := 19) h rfl
  refine ⟨zq_k_u1 21 (fun z => .iload z) 6 h rfl (zq_o_21 _) (by decide +kernel), ?_⟩
  replace h := zq_nx2 (q := 21) h rfl
  refine ⟨zq_k_u1 21 (fun z => .iload z) 5 h rfl (zq_o_21 _) (by decide +kernel), ?_⟩
  replace h := zq_nx2 (q := 23) h rfl
  refine ⟨zq_k_s2 163 (fun z => .if_icmp .gt z) 55 h rfl (zq_o_163 _) (by decide +kernel), ?_⟩
  replace h := zq_nx3 (q := 26) h rfl
  refine ⟨zq_k_n 29 h rfl (zq_o_29 _), ?_⟩
  replace h := zq_nx1 (q := 27) h rfl
  refine ⟨zq_k_s2 153 (fun z => .ifCond .eq z) 11 h rfl (zq_o_153 _) (by decide +kernel), ?_⟩
  replace h := zq_nx3 (q := 30) h rfl
  refine ⟨zq_k_u1 21 (fun z => .iload z) 5 h rfl (zq_o_21 _) (by decide +kernel), ?_⟩
  replace h := zq_nx2 (q := 32) h rfl
  refine ⟨zq_k_u1 21 (fun z => .iload z) 6 h rfl (zq_o_21 _) (by decide +kernel), ?_⟩
  replace h := zq_nx2 (q := 34) h rfl
  refine ⟨zq_k_n 100 h rfl (zq_o_100 _), ?_⟩
  replace h := zq_nx1 (q := 35) h rfl
  refine ⟨zq_k_s2 167 (fun z => .goto z) 5 h rfl (zq_o_167 _) (by decide +kernel), ?_⟩
  replace h := zq_nx3 (q := 38) h rfl
  refine ⟨zq_k_u1 21 (fun z => .iload z) 6 h rfl (zq_o_21 _) (by decide +kernel), ?_⟩
  replace h := zq_nx2 (q := 40) h rfl
  exact zq_k_u1 54 (fun z => .istore z) 7 h rfl (zq_o_54 _) (by decide +kernel)
set_option maxRecDepth 100000 in
theorem dd_Tables_firstThatFits_42 : (decode prog_8_method_3_code 42 = .ok (.aload_n 0, 1)) ∧ (decode prog_8_method_3_code 43 = .ok (.getfield 9, 3)) ∧ (decode prog_8_method_3_code 46 = .ok (.iload 4, 2)) ∧ (decode prog_8_method_3_code 48 = .ok (.iload 7, 2)) ∧ (decode prog_8_method_3_code 50 = .ok (.iastore, 1)) ∧ (decode prog_8_method_3_code 51 = .ok (.aload_n 0, 1)) ∧ (decode prog_8_method_3_code 52 = .ok (.getfield 15, 3)) ∧ (decode prog_8_method_3_code 55 = .ok (.iload 4, 2)) ∧ (decode prog_8_method_3_code 57 = .ok (.iload 7, 2)) ∧ (decode prog_8_method_3_code 59 = .ok (.iastore, 1)) ∧ (decode prog_8_method_3_code 60 = .ok (.aload_n 0, 1)) ∧ (decode prog_8_method_3_code 61 = .ok (.invokevirtual 72, 3)) ∧ (decode prog_8_method_3_code 64 = .ok (.lconst 0, 1)) ∧ (decode prog_8_method_3_code 65 = .ok (.lcmp, 1)) ∧ (decode prog_8_method_3_code 66 = .ok (.ifCond .le 6, 3)) ∧ (decode prog_8_method_3_code 69 = .ok (.iload 7, 2)) ∧ (decode prog_8_method_3_code 71 = .ok (.ireturn, 1)) ∧ (decode prog_8_method_3_code 72 = .ok (.iinc 6 1, 3)) ∧ (decode prog_8_method_3_code 75 = .ok (.goto (-56), 3)) ∧ (decode prog_8_method_3_code 78 = .ok (.bipush (-4), 2)) ∧ (decode prog_8_method_3_code 80 = .ok (.ireturn, 1)) := by
  have h : List.drop 42 prog_8_method_3_code.data.toList = 0x2a :: _ := rfl
  refine ⟨zq_k_n 42 h rfl (zq_o_42 _), ?_⟩
  replace h := zq_nx1 (q := 43) h rfl
  refine ⟨zq_k_u2 180 (fun z => .getfield z) 9 h rfl (zq_o_180 _) (by decide +kernel), ?_⟩
  replace h := zq_nx3 (q := 46) h rfl
  refine ⟨zq_k_u1 21 (fun z => .iload z) 4 h rfl (zq_o_21 _) (by decide +kernel), ?_⟩
  replace h := zq_nx2 (q := 48) h rfl
  refine ⟨zq_k_u1 21 (fun z => .iload z) 7 h rfl (zq_o_21 _) (by decide +kernel), ?_⟩
  replace h := zq_nx2 (q := 50) h rfl
  refine ⟨zq_k_n 79 h rfl (zq_o_79 _), ?_⟩
  replace h := zq_nx1 (q := 51) h rfl
  refine ⟨zq_k_n 42 h rfl (zq_o_42 _), ?_⟩
  replace h := zq_nx1 (q := 52) h rfl
  refine ⟨zq_k_u2 180 (fun z => .getfield z) 15 h rfl (zq_o_180 _) (by decide +kernel), ?_⟩
  replace h := zq_nx3 (q := 55) h rfl
  refine ⟨zq_k_u1 21 (fun z => .iload z) 4 h rfl (zq_o_21 _) (by decide +kernel), ?_⟩
  replace h := zq_nx2 (q := 57) h rfl
  refine ⟨zq_k_u1 21 (fun z => .iload z) 7 h rfl (zq_o_21 _) (by decide +kernel), ?_⟩
  replace h := zq_nx2 (q := 59) h rfl
  refine ⟨zq_k_n 79 h rfl (zq_o_79 _), ?_⟩
  replace h := zq_nx1 (q := 60) h rfl
  refine ⟨zq_k_n 42 h rfl (zq_o_42 _), ?_⟩
  replace h := zq_nx1 (q := 61) h rfl
  refine ⟨zq_k_u2 182 (fun z => .invokevirtual z) 72 h rfl (zq_o_182 _) (by decide +kernel), ?_⟩
  replace h := zq_nx3 (q := 64) h rfl
  refine ⟨zq_k_n 9 h rfl (zq_o_9 _), ?_⟩
  replace h := zq_nx1 (q := 65) h rfl
  refine ⟨zq_k_n 148 h rfl (zq_o_148 _), ?_⟩
  replace h := zq_nx1 (q := 66) h rfl
  refine ⟨zq_k_s2 158 (fun z => .ifCond .le z) 6 h rfl (zq_o_158 _) (by decide +kernel), ?_⟩
  replace h := zq_nx3 (q := 69) h rfl
  refine ⟨zq_k_u1 21 (fun z => .iload z) 7 h rfl (zq_o_21 _) (by decide +kernel), ?_⟩
  replace h := zq_nx2 (q := 71) h rfl
  refine ⟨zq_k_n 172 h rfl (zq_o_172 _), ?_⟩
  replace h := zq_nx1 (q := 72) h rfl
  refine ⟨zq_k_iinc 6 1 h rfl (zq_o_132 _) (by decide +kernel) (by decide +kernel), ?_⟩
  replace h := zq_nx3 (q := 75) h rfl
  refine ⟨zq_k_s2 167 (fun z => .goto z) (-56) h rfl (zq_o_167 _) (by decide +kernel), ?_⟩
  replace h := zq_nx3 (q := 78) h rfl
  refine ⟨zq_k_s1 16 (fun z => .bipush z) (-4) h rfl (zq_o_16 _) (by decide +kernel), ?_⟩
  replace h := zq_nx2 (q := 80) h rfl
  exact zq_k_n 172 h rfl (zq_o_172 _)
def f_Tables_firstThatFits_40 (rec19 : Nat → Int32 → Int32 → Int32 → Int32 → mH → Option (Int32 × mH)) (b0 : Nat) (b3 : Int32) (b4 : Int32) (b5 : Int32) (b6 : Int32) (s0 : Int32) (h : mH) : Option (Int32 × mH) :=
  bd1 (gR h b0 7 1) fun x7 =>
  bd1 (sI h 0 x7 b4 s0) fun h9 =>
  bd1 (gR h9 b0 7 2) fun x11 =>
  bd1 (sI h9 0 x11 b4 s0) fun h13 =>
  bd1 (kC h13 b0 7) fun _ =>
  bd2 (f_Tables_fitting b0 h13) fun x19 h17 =>
  if (lg_cmp x19 (0 : Int64)) ≤ 0 then
    rec19 b0 b3 b4 b5 (b6 + (1 : Int32)) h17
  else
    some (s0, h17)
set_option maxRecDepth 20000 in
theorem t_Tables_firstThatFits_40 {sc : Nat × (Nat → Int32)} (rec19 : Nat → Int32 → Int32 → Int32 → Int32 → mH → Option (Int32 × mH)) (hrec19 : ∀ (b0 : Nat) (b3 : Int32) (b4 : Int32) (b5 : Int32) (b6 : Int32) (h : mH) (r : Int32) (h' : mH), rec19 b0 b3 b4 b5 b6 h = some (r, h') → G sc y_Tables_firstThatFits prog_8_method_3_code 8 (some .int) 4 100 19 [(0, .ref b0), (3, .int b3), (4, .int b4), (5, .int b5), (6, .int b6)] [] h (some (.int r)) h') (b0 : Nat) (b3 : Int32) (b4 : Int32) (b5 : Int32) (b6 : Int32) (s0 : Int32) (h : mH) (r : Int32) (h' : mH) (hf : f_Tables_firstThatFits_40 rec19 b0 b3 b4 b5 b6 s0 h = some (r, h')) : G sc y_Tables_firstThatFits prog_8_method_3_code 8 (some .int) 4 100 40 [(0, .ref b0), (3, .int b3), (4, .int b4), (5, .int b5), (6, .int b6)] [.int s0] h (some (.int r)) h' := by
  unfold f_Tables_firstThatFits_40 at hf
  refine g_istore (pc := 40) [(7, .int s0), (0, .ref b0), (3, .int b3), (4, .int b4), (5, .int b5), (6, .int b6)] dd_Tables_firstThatFits_0.2.2.2.2.2.2.2.2.2.2.2.2.2.2.2.2.2.2.2.2.2.2.2 (Nat.le_of_ble_eq_true rfl) rfl ?_
  refine g_aload_n (pc := 42) 1 dd_Tables_firstThatFits_42.1 rfl rfl ?_
  obtain ⟨x7, e8, hf⟩ := bd1_e hf
  refine g_get (pc := 43) (ci := 7) (kk := 1) dd_Tables_firstThatFits_42.2.1 rfl in_Tables (by decide) wd_237 (gR_spec e8) ?_
  refine g_iload (pc := 46) 3 dd_Tables_firstThatFits_42.2.2.1 rfl ?_
  refine g_iload (pc := 48) 0 dd_Tables_firstThatFits_42.2.2.2.1 rfl ?_
  obtain ⟨h9, e10, hf⟩ := bd1_e hf
  refine g_iast (pc := 50) dd_Tables_firstThatFits_42.2.2.2.2.1 e10 ?_
  refine g_aload_n (pc := 51) 1 dd_Tables_firstThatFits_42.2.2.2.2.2.1 rfl rfl ?_
  obtain ⟨x11, e12, hf⟩ := bd1_e hf
  refine g_get (pc := 52) (ci := 7) (kk := 2) dd_Tables_firstThatFits_42.2.2.2.2.2.2.1 rfl in_Tables (by decide) wd_238 (gR_spec e12) ?_
  refine g_iload (pc := 55) 3 dd_Tables_firstThatFits_42.2.2.2.2.2.2.2.1 rfl ?_
  refine g_iload (pc := 57) 0 dd_Tables_firstThatFits_42.2.2.2.2.2.2.2.2.1 rfl ?_
  obtain ⟨h13, e14, hf⟩ := bd1_e hf
  refine g_iast (pc := 59) dd_Tables_firstThatFits_42.2.2.2.2.2.2.2.2.2.1 e14 ?_
  refine g_aload_n (pc := 60) 1 dd_Tables_firstThatFits_42.2.2.2.2.2.2.2.2.2.2.1 rfl rfl ?_
  obtain ⟨u16, e15, hf⟩ := bd1_e hf
  obtain ⟨x19, h17, e18, hf⟩ := bd2_e hf
  refine g_callV (pc := 61) (ci := 7) [] (site_of si_Tables_fitting (by decide) (by decide)) wd_837 wd_796 wd_797 dd_Tables_firstThatFits_42.2.2.2.2.2.2.2.2.2.2.2.1 rfl e15 (Nat.le_of_ble_eq_true rfl) (fun z => absurd z si_na_Tables_fitting) (fun z => absurd z si_na_Tables_fitting) (fun z => absurd z si_na_Tables_fitting) (c_Tables_fitting e18) rfl ?_
  refine g_st [.long x19] rfl ?_
  refine g_lconst (pc := 64) (0 : Int64) dd_Tables_firstThatFits_42.2.2.2.2.2.2.2.2.2.2.2.2.1 (by decide) ?_
  refine g_lcmp (pc := 65) dd_Tables_firstThatFits_42.2.2.2.2.2.2.2.2.2.2.2.2.2.1 ?_
  refine g_ifle (pc := 66) 72 dd_Tables_firstThatFits_42.2.2.2.2.2.2.2.2.2.2.2.2.2.2.1 (by decide) (fun c20 => ?_) (fun c20 => ?_)
  · replace hf := (if_pos c20).symm.trans hf
    refine g_iinc (pc := 72) 5 (b6 + (1 : Int32)) [(6, .int (b6 + (1 : Int32))), (7, .int s0), (0, .ref b0), (3, .int b3), (4, .int b4), (5, .int b5)] dd_Tables_firstThatFits_42.2.2.2.2.2.2.2.2.2.2.2.2.2.2.2.2.2.1 rfl rfl (Nat.le_of_ble_eq_true rfl) rfl ?_
    refine g_goto (pc := 75) 19 dd_Tables_firstThatFits_42.2.2.2.2.2.2.2.2.2.2.2.2.2.2.2.2.2.2.1 (by decide) ?_
    refine g_lv [2, 3, 4, 5, 0] rfl ?_
    exact hrec19 _ _ _ _ _ _ _ _  hf
  · replace hf := (if_neg c20).symm.trans hf
    refine g_iload (pc := 69) 0 dd_Tables_firstThatFits_42.2.2.2.2.2.2.2.2.2.2.2.2.2.2.2.1 rfl ?_
    obtain ⟨rfl, rfl⟩ := ret2 hf
    exact g_iret (pc := 71) rfl dd_Tables_firstThatFits_42.2.2.2.2.2.2.2.2.2.2.2.2.2.2.2.2.1
def f_Tables_firstThatFits_19b (rec19 : Nat → Int32 → Int32 → Int32 → Int32 → mH → Option (Int32 × mH)) (b0 : Nat) (b3 : Int32) (b4 : Int32) (b5 : Int32) (b6 : Int32) (h : mH) : Option (Int32 × mH) :=
  if b5 < b6 then
    some (((-4) : Int32), h)
  else
    if b3 = 0 then
      f_Tables_firstThatFits_40 rec19 b0 b3 b4 b5 b6 b6 h
    else
      f_Tables_firstThatFits_40 rec19 b0 b3 b4 b5 b6 (b5 - b6) h
set_option maxRecDepth 20000 in
theorem t_Tables_firstThatFits_19b {sc : Nat × (Nat → Int32)} (rec19 : Nat → Int32 → Int32 → Int32 → Int32 → mH → Option (Int32 × mH)) (hrec19 : ∀ (b0 : Nat) (b3 : Int32) (b4 : Int32) (b5 : Int32) (b6 : Int32) (h : mH) (r : Int32) (h' : mH), rec19 b0 b3 b4 b5 b6 h = some (r, h') → G sc y_Tables_firstThatFits prog_8_method_3_code 8 (some .int) 4 100 19 [(0, .ref b0), (3, .int b3), (4, .int b4), (5, .int b5), (6, .int b6)] [] h (some (.int r)) h') (b0 : Nat) (b3 : Int32) (b4 : Int32) (b5 : Int32) (b6 : Int32) (h : mH) (r : Int32) (h' : mH) (hf : f_Tables_firstThatFits_19b rec19 b0 b3 b4 b5 b6 h = some (r, h')) : G sc y_Tables_firstThatFits prog_8_method_3_code 8 (some .int) 4 100 19 [(0, .ref b0), (3, .int b3), (4, .int b4), (5, .int b5), (6, .int b6)] [] h (some (.int r)) h' := by
  unfold f_Tables_firstThatFits_19b at hf
  refine g_iload (pc := 19) 4 dd_Tables_firstThatFits_0.2.2.2.2.2.2.2.2.2.2.2.2.2.1 rfl ?_
  refine g_iload (pc := 21) 3 dd_Tables_firstThatFits_0.2.2.2.2.2.2.2.2.2.2.2.2.2.2.1 rfl ?_
  refine g_icmpgt (pc := 23) 78 dd_Tables_firstThatFits_0.2.2.2.2.2.2.2.2.2.2.2.2.2.2.2.1 (by decide) (fun c6 => ?_) (fun c6 => ?_)
  · replace hf := (if_pos c6).symm.trans hf
    refine g_bipush (pc := 78) ((-4) : Int32) dd_Tables_firstThatFits_42.2.2.2.2.2.2.2.2.2.2.2.2.2.2.2.2.2.2.2.1 (by decide) ?_
    obtain ⟨rfl, rfl⟩ := ret2 hf
    exact g_iret (pc := 80) rfl dd_Tables_firstThatFits_42.2.2.2.2.2.2.2.2.2.2.2.2.2.2.2.2.2.2.2.2
  · replace hf := (if_neg c6).symm.trans hf
    refine g_iload_n (pc := 26) 1 dd_Tables_firstThatFits_0.2.2.2.2.2.2.2.2.2.2.2.2.2.2.2.2.1 rfl rfl ?_
    refine g_ifeq (pc := 27) 38 dd_Tables_firstThatFits_0.2.2.2.2.2.2.2.2.2.2.2.2.2.2.2.2.2.1 (by decide) (fun c5 => ?_) (fun c5 => ?_)
    · replace hf := (if_pos c5).symm.trans hf
      refine g_iload (pc := 38) 4 dd_Tables_firstThatFits_0.2.2.2.2.2.2.2.2.2.2.2.2.2.2.2.2.2.2.2.2.2.2.1 rfl ?_
      refine g_lv [0, 1, 2, 3, 4] rfl ?_
      exact t_Tables_firstThatFits_40 rec19 hrec19 _ _ _ _ _ _ _ _ _  hf
    · replace hf := (if_neg c5).symm.trans hf
      refine g_iload (pc := 30) 3 dd_Tables_firstThatFits_0.2.2.2.2.2.2.2.2.2.2.2.2.2.2.2.2.2.2.1 rfl ?_
      refine g_iload (pc := 32) 4 dd_Tables_firstThatFits_0.2.2.2.2.2.2.2.2.2.2.2.2.2.2.2.2.2.2.2.1 rfl ?_
      refine g_isub (pc := 34) dd_Tables_firstThatFits_0.2.2.2.2.2.2.2.2.2.2.2.2.2.2.2.2.2.2.2.2.1 ?_
      refine g_goto (pc := 35) 40 dd_Tables_firstThatFits_0.2.2.2.2.2.2.2.2.2.2.2.2.2.2.2.2.2.2.2.2.2.1 (by decide) ?_
      refine g_lv [0, 1, 2, 3, 4] rfl ?_
      exact t_Tables_firstThatFits_40 rec19 hrec19 _ _ _ _ _ _ _ _ _  hf
def f_Tables_firstThatFits_19  : Nat → Nat → Int32 → Int32 → Int32 → Int32 → mH → Option (Int32 × mH)
  | 0 => fun _ _ _ _ _ _ => none
  | n + 1 => f_Tables_firstThatFits_19b  (f_Tables_firstThatFits_19  n)
theorem t_Tables_firstThatFits_19 {sc : Nat × (Nat → Int32)}  : ∀ (n : Nat) (b0 : Nat) (b3 : Int32) (b4 : Int32) (b5 : Int32) (b6 : Int32) (h : mH) (r : Int32) (h' : mH) (hf : f_Tables_firstThatFits_19  n b0 b3 b4 b5 b6 h = some (r, h')), G sc y_Tables_firstThatFits prog_8_method_3_code 8 (some .int) 4 100 19 [(0, .ref b0), (3, .int b3), (4, .int b4), (5, .int b5), (6, .int b6)] [] h (some (.int r)) h'
  | 0, _, _, _, _, _, _, _, _, hf => by cases hf
  | n + 1, _, _, _, _, _, _, _, _, hf => t_Tables_firstThatFits_19b  (f_Tables_firstThatFits_19  n) (t_Tables_firstThatFits_19  n) _ _ _ _ _ _ _ _ hf
def f_Tables_firstThatFits_0  (a0 : Nat) (a1 : Int32) (a2 : Int32) (a3 : Int32) (h : mH) : Option (Int32 × mH) :=
  bd1 (gR h a0 7 2) fun x1 =>
  bd1 (aI h 0 x1 ((a1 * (5 : Int32)) + a2)) fun x3 =>
  f_Tables_firstThatFits_19  FU a0 a3 ((a1 * (5 : Int32)) + a2) x3 (0 : Int32) h
set_option maxRecDepth 20000 in
theorem t_Tables_firstThatFits_0 {sc : Nat × (Nat → Int32)}  (a0 : Nat) (a1 : Int32) (a2 : Int32) (a3 : Int32) (h : mH) (r : Int32) (h' : mH) (hf : f_Tables_firstThatFits_0  a0 a1 a2 a3 h = some (r, h')) : G sc y_Tables_firstThatFits prog_8_method_3_code 8 (some .int) 4 100 0 [(0, .ref a0), (1, .int a1), (2, .int a2), (3, .int a3)] [] h (some (.int r)) h' := by
  unfold f_Tables_firstThatFits_0 at hf
  refine g_iload_n (pc := 0) 1 dd_Tables_firstThatFits_0.1 rfl rfl ?_
  refine g_iconst (pc := 1) (5 : Int32) dd_Tables_firstThatFits_0.2.1 (by decide) ?_
  refine g_imul (pc := 2) dd_Tables_firstThatFits_0.2.2.1 ?_
  refine g_iload_n (pc := 3) 2 dd_Tables_firstThatFits_0.2.2.2.1 rfl rfl ?_
  refine g_iadd (pc := 4) dd_Tables_firstThatFits_0.2.2.2.2.1 ?_
  refine g_istore (pc := 5) [(4, .int ((a1 * (5 : Int32)) + a2)), (0, .ref a0), (1, .int a1), (2, .int a2), (3, .int a3)] dd_Tables_firstThatFits_0.2.2.2.2.2.1 (Nat.le_of_ble_eq_true rfl) rfl ?_
  refine g_aload_n (pc := 7) 1 dd_Tables_firstThatFits_0.2.2.2.2.2.2.1 rfl rfl ?_
  obtain ⟨x1, e2, hf⟩ := bd1_e hf
  refine g_get (pc := 8) (ci := 7) (kk := 2) dd_Tables_firstThatFits_0.2.2.2.2.2.2.2.1 rfl in_Tables (by decide) wd_238 (gR_spec e2) ?_
  refine g_iload (pc := 11) 0 dd_Tables_firstThatFits_0.2.2.2.2.2.2.2.2.1 rfl ?_
  obtain ⟨x3, e4, hf⟩ := bd1_e hf
  refine g_iald (pc := 13) dd_Tables_firstThatFits_0.2.2.2.2.2.2.2.2.2.1 e4 ?_
  refine g_istore (pc := 14) [(5, .int x3), (4, .int ((a1 * (5 : Int32)) + a2)), (0, .ref a0), (1, .int a1), (2, .int a2), (3, .int a3)] dd_Tables_firstThatFits_0.2.2.2.2.2.2.2.2.2.2.1 (Nat.le_of_ble_eq_true rfl) rfl ?_
  refine g_iconst (pc := 16) (0 : Int32) dd_Tables_firstThatFits_0.2.2.2.2.2.2.2.2.2.2.2.1 (by decide) ?_
  refine g_istore (pc := 17) [(6, .int (0 : Int32)), (5, .int x3), (4, .int ((a1 * (5 : Int32)) + a2)), (0, .ref a0), (1, .int a1), (2, .int a2), (3, .int a3)] dd_Tables_firstThatFits_0.2.2.2.2.2.2.2.2.2.2.2.2.1 (Nat.le_of_ble_eq_true rfl) rfl ?_
  refine g_lv [3, 6, 2, 1, 0] rfl ?_
  exact t_Tables_firstThatFits_19  FU _ _ _ _ _ _ _ _  hf
def f_Tables_firstThatFits (a0 : Nat) (a1 : Int32) (a2 : Int32) (a3 : Int32) (h : mH) : Option (Int32 × mH) := f_Tables_firstThatFits_0 a0 a1 a2 a3 h
theorem c_Tables_firstThatFits {sc : Nat × (Nat → Int32)} {a0 : Nat} {a1 : Int32} {a2 : Int32} {a3 : Int32} {h : mH} {r : Int32} {h' : mH} (hf : f_Tables_firstThatFits a0 a1 a2 a3 h = some (r, h')) : MM sc y_Tables_firstThatFits prog_8_method_3_code 8 (some .int) 4 100 [.ref a0, .int a1, .int a2, .int a3] h (some (.int r)) h' :=
  mm_of_G si_pn_Tables (Nat.le_of_ble_eq_true rfl) (t_Tables_firstThatFits_0 _ _ _ _ _ _ _ hf)
/-! Q entry (III)I -/
set_option maxRecDepth 100000 in
theorem dd_Q_entry_0 : (decode prog_1_method_31_code 0 = .ok (.aload_n 0, 1)) ∧ (decode prog_1_method_31_code 1 = .ok (.getfield 19, 3)) ∧ (decode prog_1_method_31_code 4 = .ok (.iload_n 1, 1)) ∧ (decode prog_1_method_31_code 5 = .ok (.iload_n 2, 1)) ∧ (decode prog_1_method_31_code 6 = .ok (.invokevirtual 162, 3)) ∧ (decode prog_1_method_31_code 9 = .ok (.ifCond .eq 12, 3)) ∧ (decode prog_1_method_31_code 12 = .ok (.iload_n 3, 1)) ∧ (decode prog_1_method_31_code 13 = .ok (.iconst 0, 1)) ∧ (decode prog_1_method_31_code 14 = .ok (.iconst 1, 1)) ∧ (decode prog_1_method_31_code 15 = .ok (.invokestatic 62, 3)) ∧ (decode prog_1_method_31_code 18 = .ok (.ifCond .ne 5, 3)) ∧ (decode prog_1_method_31_code 21 = .ok (.iconst (-1), 1)) ∧ (decode prog_1_method_31_code 22 = .ok (.ireturn, 1)) ∧ (decode prog_1_method_31_code 23 = .ok (.aload_n 0, 1)) ∧ (decode prog_1_method_31_code 24 = .ok (.getfield 50, 3)) ∧ (decode prog_1_method_31_code 27 = .ok (.aload_n 0, 1)) ∧ (decode prog_1_method_31_code 28 = .ok (.getfield 19, 3)) ∧ (decode prog_1_method_31_code 31 = .ok (.invokevirtual 247, 3)) ∧ (decode prog_1_method_31_code 34 = .ok (.aload_n 0, 1)) ∧ (decode prog_1_method_31_code 35 = .ok (.getfield 50, 3)) ∧ (decode prog_1_method_31_code 38 = .ok (.iload_n 1, 1)) ∧ (decode prog_1_method_31_code 39 = .ok (.iload_n 2, 1)) ∧ (decode prog_1_method_31_code 40 = .ok (.iload_n 3, 1)) ∧ (decode prog_1_method_31_code 41 = .ok (.iconst 1, 1)) := by
  have h : List.drop 0 prog_1_method_31_code.data.toList = 0x2a :: _ := rfl
  refine ⟨zq_k_n 42 h rfl (zq_o_42 _), ?_⟩
  replace h := zq_nx1 (q := 1) h rfl
  refine ⟨zq_k_u2 180 (fun z => .getfield z) 19 h rfl (zq_o_180 _) (by decide +kernel), ?_⟩
  replace h := zq_nx3 (q := 4) h rfl
  refine ⟨zq_k_n 27 h rfl (zq_o_27 _), ?_⟩
  replace h := zq_nx1 (q := 5) h rfl
  refine ⟨zq_k_n 28 h rfl (zq_o_28 _), ?_⟩
  replace h := zq_nx1 (q := 6) h rfl
  refine ⟨zq_k_u2 182 (fun z => .invokevirtual z) 162 h rfl (zq_o_182 _) (by decide +kernel), ?_⟩
  replace h := zq_nx3 (q := 9) h rfl
  refine ⟨zq_k_s2 153 (fun z => .ifCond .eq z) 12 h rfl (zq_o_153 _) (by decide +kernel), ?_⟩
  replace h := zq_nx3 (q := 12) h rfl
  refine ⟨zq_k_n 29 h rfl (zq_o_29 _), ?_⟩
  replace h := zq_nx1 (q := 13) h rfl
  refine ⟨zq_k_n 3 h rfl (zq_o_3 _), ?_⟩
  replace h := zq_nx1 (q := 14) h rfl
  refine ⟨zq_k_n 4 h rfl (zq_o_4 _), ?_⟩
  replace h := zq_nx1 (q := 15) h rfl
  refine ⟨zq_k_u2 184 (fun z => .invokestatic z) 62 h rfl (zq_o_184 _) (by decide +kernel), ?_⟩
  replace h := zq_nx3 (q := 18) h rfl
  refine ⟨zq_k_s2 154 (fun z => .ifCond .ne z) 5 h rfl (zq_o_154 _) (by decide +kernel), ?_⟩
  replace h := zq_nx3 (q := 21) h rfl
  refine ⟨zq_k_n 2 h rfl (zq_o_2 _), ?_⟩
  replace h := zq_nx1 (q := 22) h rfl
  refine ⟨zq_k_n 172 h rfl (zq_o_172 _), ?_⟩
  replace h := zq_nx1 (q := 23) h rfl
  refine ⟨zq_k_n 42 h rfl (zq_o_42 _), ?_⟩
  replace h := zq_nx1 (q := 24) h rfl
  refine ⟨zq_k_u2 180 (fun z => .getfield z) 50 h rfl (zq_o_180 _) (by decide +kernel), ?_⟩
  replace h := zq_nx3 (q := 27) h rfl
  refine ⟨zq_k_n 42 h rfl (zq_o_42 _), ?_⟩
  replace h := zq_nx1 (q := 28) h rfl
  refine ⟨zq_k_u2 180 (fun z => .getfield z) 19 h rfl (zq_o_180 _) (by decide +kernel), ?_⟩
  replace h := zq_nx3 (q := 31) h rfl
  refine ⟨zq_k_u2 182 (fun z => .invokevirtual z) 247 h rfl (zq_o_182 _) (by decide +kernel), ?_⟩
  replace h := zq_nx3 (q := 34) h rfl
  refine ⟨zq_k_n 42 h rfl (zq_o_42 _), ?_⟩
  replace h := zq_nx1 (q := 35) h rfl
  refine ⟨zq_k_u2 180 (fun z => .getfield z) 50 h rfl (zq_o_180 _) (by decide +kernel), ?_⟩
  replace h := zq_nx3 (q := 38) h rfl
  refine ⟨zq_k_n 27 h rfl (zq_o_27 _), ?_⟩
  replace h := zq_nx1 (q := 39) h rfl
  refine ⟨zq_k_n 28 h rfl (zq_o_28 _), ?_⟩
  replace h := zq_nx1 (q := 40) h rfl
  refine ⟨zq_k_n 29 h rfl (zq_o_29 _), ?_⟩
  replace h := zq_nx1 (q := 41) h rfl
  exact zq_k_n 4 h rfl (zq_o_4 _)
set_option maxRecDepth 100000 in
theorem dd_Q_entry_42 : (decode prog_1_method_31_code 42 = .ok (.if_icmp .ne 7, 3)) ∧ (decode prog_1_method_31_code 45 = .ok (.iconst 1, 1)) ∧ (decode prog_1_method_31_code 46 = .ok (.goto 4, 3)) ∧ (decode prog_1_method_31_code 49 = .ok (.iconst 0, 1)) ∧ (decode prog_1_method_31_code 50 = .ok (.invokevirtual 252, 3)) ∧ (decode prog_1_method_31_code 53 = .ok (.ireturn, 1)) := by
  have h : List.drop 42 prog_1_method_31_code.data.toList = 0xa0 :: _ := rfl
  refine ⟨zq_k_s2 160 (fun z => .if_icmp .ne z) 7 h rfl (zq_o_160 _) (by decide +kernel), ?_⟩
  replace h := zq_nx3 (q := 45) h rfl
  refine ⟨zq_k_n 4 h rfl (zq_o_4 _), ?_⟩
  replace h := zq_nx1 (q := 46) h rfl
  refine ⟨zq_k_s2 167 (fun z => .goto z) 4 h rfl (zq_o_167 _) (by decide +kernel), ?_⟩
  replace h := zq_nx3 (q := 49) h rfl
  refine ⟨zq_k_n 3 h rfl (zq_o_3 _), ?_⟩
  replace h := zq_nx1 (q := 50) h rfl
  refine ⟨zq_k_u2 182 (fun z => .invokevirtual z) 252 h rfl (zq_o_182 _) (by decide +kernel), ?_⟩
  replace h := zq_nx3 (q := 53) h rfl
  exact zq_k_n 172 h rfl (zq_o_172 _)
def f_Q_entry_50  (s0 : Nat) (s1 : Int32) (s2 : Int32) (s3 : Int32) (h : mH) : Option (Int32 × mH) :=
  bd1 (kC h s0 7) fun _ =>
  bd2 (f_Tables_firstThatFits s0 s1 s2 s3 h) fun x28 h26 =>
  some (x28, h26)
set_option maxRecDepth 20000 in
theorem t_Q_entry_50 {sc : Nat × (Nat → Int32)}  (s0 : Nat) (s1 : Int32) (s2 : Int32) (s3 : Int32) (h : mH) (r : Int32) (h' : mH) (hf : f_Q_entry_50  s0 s1 s2 s3 h = some (r, h')) : G sc y_Q_entry prog_1_method_31_code 4 (some .int) 5 127 50 [] [.int s3, .int s2, .int s1, .ref s0] h (some (.int r)) h' := by
  unfold f_Q_entry_50 at hf
  obtain ⟨u25, e24, hf⟩ := bd1_e hf
  obtain ⟨x28, h26, e27, hf⟩ := bd2_e hf
  refine g_callV (pc := 50) (ci := 7) [.int s1, .int s2, .int s3] (site_of si_Tables_firstThatFits (by decide) (by decide)) wd_833 wd_834 wd_835 dd_Q_entry_42.2.2.2.2.1 rfl e24 (Nat.le_of_ble_eq_true rfl) (fun z => absurd z si_na_Tables_firstThatFits) (fun z => absurd z si_na_Tables_firstThatFits) (fun z => absurd z si_na_Tables_firstThatFits) (c_Tables_firstThatFits e27) rfl ?_
  refine g_st [.int x28] rfl ?_
  obtain ⟨rfl, rfl⟩ := ret2 hf
  exact g_iret (pc := 53) rfl dd_Q_entry_42.2.2.2.2.2
def f_Q_entry_21   (h : mH) : Option (Int32 × mH) :=
  some (((-1) : Int32), h)
set_option maxRecDepth 20000 in
theorem t_Q_entry_21 {sc : Nat × (Nat → Int32)}   (h : mH) (r : Int32) (h' : mH) (hf : f_Q_entry_21   h = some (r, h')) : G sc y_Q_entry prog_1_method_31_code 4 (some .int) 5 127 21 [] [] h (some (.int r)) h' := by
  unfold f_Q_entry_21 at hf
  refine g_iconst (pc := 21) ((-1) : Int32) dd_Q_entry_0.2.2.2.2.2.2.2.2.2.2.2.1 (by decide) ?_
  obtain ⟨rfl, rfl⟩ := ret2 hf
  exact g_iret (pc := 22) rfl dd_Q_entry_0.2.2.2.2.2.2.2.2.2.2.2.2.1
def f_Q_entry_0  (a0 : Nat) (a1 : Int32) (a2 : Int32) (a3 : Int32) (h : mH) : Option (Int32 × mH) :=
  bd1 (gR h a0 0 1) fun x1 =>
  bd1 (kC h x1 4) fun _ =>
  bd2 (f_Realm_hasBoth x1 a1 a2 h) fun x7 h5 =>
  if x7 = 0 then
    f_Q_entry_21  h5
  else
    bd2 (f_Q_isWithin a3 (0 : Int32) (1 : Int32) h5) fun x10 h8 =>
    if x10 = 0 then
      f_Q_entry_21  h8
    else
      bd1 (gR h8 a0 0 7) fun x11 =>
      bd1 (gR h8 a0 0 1) fun x13 =>
      bd1 (kC h8 x11 7) fun _ =>
      bd1 (f_Tables_load x11 x13 h8) fun h17 =>
      bd1 (gR h17 a0 0 7) fun x19 =>
      if a3 = (1 : Int32) then
        f_Q_entry_50  x19 a1 a2 (1 : Int32) h17
      else
        f_Q_entry_50  x19 a1 a2 (0 : Int32) h17
set_option maxRecDepth 20000 in
theorem t_Q_entry_0 {sc : Nat × (Nat → Int32)}  (a0 : Nat) (a1 : Int32) (a2 : Int32) (a3 : Int32) (h : mH) (r : Int32) (h' : mH) (hf : f_Q_entry_0  a0 a1 a2 a3 h = some (r, h')) : G sc y_Q_entry prog_1_method_31_code 4 (some .int) 5 127 0 [(0, .ref a0), (1, .int a1), (2, .int a2), (3, .int a3)] [] h (some (.int r)) h' := by
  unfold f_Q_entry_0 at hf
  refine g_aload_n (pc := 0) 0 dd_Q_entry_0.1 rfl rfl ?_
  obtain ⟨x1, e2, hf⟩ := bd1_e hf
  refine g_get (pc := 1) (ci := 0) (kk := 1) dd_Q_entry_0.2.1 rfl in_Q (by decide) wd_297 (gR_spec e2) ?_
  refine g_iload_n (pc := 4) 1 dd_Q_entry_0.2.2.1 rfl rfl ?_
  refine g_iload_n (pc := 5) 2 dd_Q_entry_0.2.2.2.1 rfl rfl ?_
  obtain ⟨u4, e3, hf⟩ := bd1_e hf
  obtain ⟨x7, h5, e6, hf⟩ := bd2_e hf
  refine g_callV (pc := 6) (ci := 4) [.int a1, .int a2] (site_of si_Realm_hasBoth (by decide) (by decide)) wd_570 wd_571 wd_572 dd_Q_entry_0.2.2.2.2.1 rfl e3 (Nat.le_of_ble_eq_true rfl) (fun z => absurd z si_na_Realm_hasBoth) (fun z => absurd z si_na_Realm_hasBoth) (fun z => absurd z si_na_Realm_hasBoth) (c_Realm_hasBoth e6) rfl ?_
  refine g_st [.int x7] rfl ?_
  refine g_ifeq (pc := 9) 21 dd_Q_entry_0.2.2.2.2.2.1 (by decide) (fun c23 => ?_) (fun c23 => ?_)
  · replace hf := (if_pos c23).symm.trans hf
    refine g_lv [] rfl ?_
    exact t_Q_entry_21  _ _ _  hf
  · replace hf := (if_neg c23).symm.trans hf
    refine g_iload_n (pc := 12) 3 dd_Q_entry_0.2.2.2.2.2.2.1 rfl rfl ?_
    refine g_iconst (pc := 13) (0 : Int32) dd_Q_entry_0.2.2.2.2.2.2.2.1 (by decide) ?_
    refine g_iconst (pc := 14) (1 : Int32) dd_Q_entry_0.2.2.2.2.2.2.2.2.1 (by decide) ?_
    obtain ⟨x10, h8, e9, hf⟩ := bd2_e hf
    refine g_callS (pc := 15) [.int a3, .int (0 : Int32), .int (1 : Int32)] (site_of si_Q_isWithin (by decide) (by decide)) wd_331 wd_332 dd_Q_entry_0.2.2.2.2.2.2.2.2.2.1 (Nat.le_of_ble_eq_true rfl) (fun z => absurd z si_na_Q_isWithin) (fun z => absurd z si_na_Q_isWithin) (fun z => absurd z si_na_Q_isWithin) (c_Q_isWithin e9) rfl ?_
    refine g_st [.int x10] rfl ?_
    refine g_ifne (pc := 18) 23 dd_Q_entry_0.2.2.2.2.2.2.2.2.2.2.1 (by decide) (fun c22 => ?_) (fun c22 => ?_)
    · replace hf := (if_neg c22).symm.trans hf
      refine g_aload_n (pc := 23) 0 dd_Q_entry_0.2.2.2.2.2.2.2.2.2.2.2.2.2.1 rfl rfl ?_
      obtain ⟨x11, e12, hf⟩ := bd1_e hf
      refine g_get (pc := 24) (ci := 0) (kk := 7) dd_Q_entry_0.2.2.2.2.2.2.2.2.2.2.2.2.2.2.1 rfl in_Q (by decide) wd_303 (gR_spec e12) ?_
      refine g_aload_n (pc := 27) 0 dd_Q_entry_0.2.2.2.2.2.2.2.2.2.2.2.2.2.2.2.1 rfl rfl ?_
      obtain ⟨x13, e14, hf⟩ := bd1_e hf
      refine g_get (pc := 28) (ci := 0) (kk := 1) dd_Q_entry_0.2.2.2.2.2.2.2.2.2.2.2.2.2.2.2.2.1 rfl in_Q (by decide) wd_297 (gR_spec e14) ?_
      obtain ⟨u16, e15, hf⟩ := bd1_e hf
      obtain ⟨h17, e18, hf⟩ := bd1_e hf
      refine g_callV (pc := 31) (ci := 7) [.ref x13] (site_of si_Tables_load (by decide) (by decide)) wd_784 wd_785 wd_786 dd_Q_entry_0.2.2.2.2.2.2.2.2.2.2.2.2.2.2.2.2.2.1 rfl e15 (Nat.le_of_ble_eq_true rfl) (fun z => absurd z si_na_Tables_load) (fun z => absurd z si_na_Tables_load) (fun z => absurd z si_na_Tables_load) (c_Tables_load e18) rfl ?_
      refine g_st [] rfl ?_
      refine g_aload_n (pc := 34) 0 dd_Q_entry_0.2.2.2.2.2.2.2.2.2.2.2.2.2.2.2.2.2.2.1 rfl rfl ?_
      obtain ⟨x19, e20, hf⟩ := bd1_e hf
      refine g_get (pc := 35) (ci := 0) (kk := 7) dd_Q_entry_0.2.2.2.2.2.2.2.2.2.2.2.2.2.2.2.2.2.2.2.1 rfl in_Q (by decide) wd_303 (gR_spec e20) ?_
      refine g_iload_n (pc := 38) 1 dd_Q_entry_0.2.2.2.2.2.2.2.2.2.2.2.2.2.2.2.2.2.2.2.2.1 rfl rfl ?_
      refine g_iload_n (pc := 39) 2 dd_Q_entry_0.2.2.2.2.2.2.2.2.2.2.2.2.2.2.2.2.2.2.2.2.2.1 rfl rfl ?_
      refine g_iload_n (pc := 40) 3 dd_Q_entry_0.2.2.2.2.2.2.2.2.2.2.2.2.2.2.2.2.2.2.2.2.2.2.1 rfl rfl ?_
      refine g_iconst (pc := 41) (1 : Int32) dd_Q_entry_0.2.2.2.2.2.2.2.2.2.2.2.2.2.2.2.2.2.2.2.2.2.2.2 (by decide) ?_
      refine g_icmpne (pc := 42) 49 dd_Q_entry_42.1 (by decide) (fun c21 => ?_) (fun c21 => ?_)
      · replace hf := (if_neg c21).symm.trans hf
        refine g_iconst (pc := 49) (0 : Int32) dd_Q_entry_42.2.2.2.1 (by decide) ?_
        refine g_lv [] rfl ?_
        exact t_Q_entry_50  _ _ _ _ _ _ _  hf
      · replace hf := (if_pos c21).symm.trans hf
        refine g_iconst (pc := 45) (1 : Int32) dd_Q_entry_42.2.1 (by decide) ?_
        refine g_goto (pc := 46) 50 dd_Q_entry_42.2.2.1 (by decide) ?_
        refine g_lv [] rfl ?_
        exact t_Q_entry_50  _ _ _ _ _ _ _  hf
    · replace hf := (if_pos c22).symm.trans hf
      refine g_lv [] rfl ?_
      exact t_Q_entry_21  _ _ _  hf
def f_Q_entry (a0 : Nat) (a1 : Int32) (a2 : Int32) (a3 : Int32) (h : mH) : Option (Int32 × mH) := f_Q_entry_0 a0 a1 a2 a3 h
theorem c_Q_entry {sc : Nat × (Nat → Int32)} {a0 : Nat} {a1 : Int32} {a2 : Int32} {a3 : Int32} {h : mH} {r : Int32} {h' : mH} (hf : f_Q_entry a0 a1 a2 a3 h = some (r, h')) : MM sc y_Q_entry prog_1_method_31_code 4 (some .int) 5 127 [.ref a0, .int a1, .int a2, .int a3] h (some (.int r)) h' :=
  mm_of_G si_pn_Q (Nat.le_of_ble_eq_true rfl) (t_Q_entry_0 _ _ _ _ _ _ _ hf)
/-! Realm nextSeed (I)I -/
set_option maxRecDepth 100000 in
theorem dd_Realm_nextSeed_0 : (decode prog_5_method_27_code 0 = .ok (.iload_n 0, 1)) ∧ (decode prog_5_method_27_code 1 = .ok (.ldc 160, 2)) ∧ (decode prog_5_method_27_code 3 = .ok (.imul, 1)) ∧ (decode prog_5_method_27_code 4 = .ok (.sipush 12345, 3)) ∧ (decode prog_5_method_27_code 7 = .ok (.iadd, 1)) ∧ (decode prog_5_method_27_code 8 = .ok (.ireturn, 1)) := by
  have h : List.drop 0 prog_5_method_27_code.data.toList = 0x1a :: _ := rfl
  refine ⟨zq_k_n 26 h rfl (zq_o_26 _), ?_⟩
  replace h := zq_nx1 (q := 1) h rfl
  refine ⟨zq_k_u1 18 (fun z => .ldc z) 160 h rfl (zq_o_18 _) (by decide +kernel), ?_⟩
  replace h := zq_nx2 (q := 3) h rfl
  refine ⟨zq_k_n 104 h rfl (zq_o_104 _), ?_⟩
  replace h := zq_nx1 (q := 4) h rfl
  refine ⟨zq_k_s2 17 (fun z => .sipush z) 12345 h rfl (zq_o_17 _) (by decide +kernel), ?_⟩
  replace h := zq_nx3 (q := 7) h rfl
  refine ⟨zq_k_n 96 h rfl (zq_o_96 _), ?_⟩
  replace h := zq_nx1 (q := 8) h rfl
  exact zq_k_n 172 h rfl (zq_o_172 _)
def f_Realm_nextSeed_0  (a0 : Int32) (h : mH) : Option (Int32 × mH) :=
  some ((a0 * (1103515245 : Int32)) + (12345 : Int32), h)
set_option maxRecDepth 20000 in
theorem t_Realm_nextSeed_0 {sc : Nat × (Nat → Int32)}  (a0 : Int32) (h : mH) (r : Int32) (h' : mH) (hf : f_Realm_nextSeed_0  a0 h = some (r, h')) : G sc y_Realm_nextSeed prog_5_method_27_code 1 (some .int) 0 0 0 [(0, .int a0)] [] h (some (.int r)) h' := by
  unfold f_Realm_nextSeed_0 at hf
  refine g_iload_n (pc := 0) 0 dd_Realm_nextSeed_0.1 rfl rfl ?_
  refine g_ldc (pc := 1) (1103515245 : Int32) dd_Realm_nextSeed_0.2.1 wd_849 ?_
  refine g_imul (pc := 3) dd_Realm_nextSeed_0.2.2.1 ?_
  refine g_sipush (pc := 4) (12345 : Int32) dd_Realm_nextSeed_0.2.2.2.1 (by decide) ?_
  refine g_iadd (pc := 7) dd_Realm_nextSeed_0.2.2.2.2.1 ?_
  obtain ⟨rfl, rfl⟩ := ret2 hf
  exact g_iret (pc := 8) rfl dd_Realm_nextSeed_0.2.2.2.2.2
def f_Realm_nextSeed (a0 : Int32) (h : mH) : Option (Int32 × mH) := f_Realm_nextSeed_0 a0 h
theorem c_Realm_nextSeed {sc : Nat × (Nat → Int32)} {a0 : Int32} {h : mH} {r : Int32} {h' : mH} (hf : f_Realm_nextSeed a0 h = some (r, h')) : MM sc y_Realm_nextSeed prog_5_method_27_code 1 (some .int) 0 0 [.int a0] h (some (.int r)) h' :=
  mm_of_G si_pn_Realm (Nat.le_of_ble_eq_true rfl) (t_Realm_nextSeed_0 _ _ _ _ hf)
/-! Realm drawn (I)I -/
set_option maxRecDepth 100000 in
theorem dd_Realm_drawn_0 : (decode prog_5_method_28_code 0 = .ok (.iload_n 0, 1)) ∧ (decode prog_5_method_28_code 1 = .ok (.bipush 16, 2)) ∧ (decode prog_5_method_28_code 3 = .ok (.iushr, 1)) ∧ (decode prog_5_method_28_code 4 = .ok (.sipush 32767, 3)) ∧ (decode prog_5_method_28_code 7 = .ok (.iand, 1)) ∧ (decode prog_5_method_28_code 8 = .ok (.ireturn, 1)) := by
  have h : List.drop 0 prog_5_method_28_code.data.toList = 0x1a :: _ := rfl
  refine ⟨zq_k_n 26 h rfl (zq_o_26 _), ?_⟩
  replace h := zq_nx1 (q := 1) h rfl
  refine ⟨zq_k_s1 16 (fun z => .bipush z) 16 h rfl (zq_o_16 _) (by decide +kernel), ?_⟩
  replace h := zq_nx2 (q := 3) h rfl
  refine ⟨zq_k_n 124 h rfl (zq_o_124 _), ?_⟩
  replace h := zq_nx1 (q := 4) h rfl
  refine ⟨zq_k_s2 17 (fun z => .sipush z) 32767 h rfl (zq_o_17 _) (by decide +kernel), ?_⟩
  replace h := zq_nx3 (q := 7) h rfl
  refine ⟨zq_k_n 126 h rfl (zq_o_126 _), ?_⟩
  replace h := zq_nx1 (q := 8) h rfl
  exact zq_k_n 172 h rfl (zq_o_172 _)
def f_Realm_drawn_0  (a0 : Int32) (h : mH) : Option (Int32 × mH) :=
  some (((a0.toUInt32 >>> ((16 : Int32).toUInt32 &&& Int32.toUInt32 31)).toInt32) &&& (32767 : Int32), h)
set_option maxRecDepth 20000 in
theorem t_Realm_drawn_0 {sc : Nat × (Nat → Int32)}  (a0 : Int32) (h : mH) (r : Int32) (h' : mH) (hf : f_Realm_drawn_0  a0 h = some (r, h')) : G sc y_Realm_drawn prog_5_method_28_code 1 (some .int) 0 0 0 [(0, .int a0)] [] h (some (.int r)) h' := by
  unfold f_Realm_drawn_0 at hf
  refine g_iload_n (pc := 0) 0 dd_Realm_drawn_0.1 rfl rfl ?_
  refine g_bipush (pc := 1) (16 : Int32) dd_Realm_drawn_0.2.1 (by decide) ?_
  refine g_iushr (pc := 3) dd_Realm_drawn_0.2.2.1 ?_
  refine g_sipush (pc := 4) (32767 : Int32) dd_Realm_drawn_0.2.2.2.1 (by decide) ?_
  refine g_iand (pc := 7) dd_Realm_drawn_0.2.2.2.2.1 ?_
  obtain ⟨rfl, rfl⟩ := ret2 hf
  exact g_iret (pc := 8) rfl dd_Realm_drawn_0.2.2.2.2.2
def f_Realm_drawn (a0 : Int32) (h : mH) : Option (Int32 × mH) := f_Realm_drawn_0 a0 h
theorem c_Realm_drawn {sc : Nat × (Nat → Int32)} {a0 : Int32} {h : mH} {r : Int32} {h' : mH} (hf : f_Realm_drawn a0 h = some (r, h')) : MM sc y_Realm_drawn prog_5_method_28_code 1 (some .int) 0 0 [.int a0] h (some (.int r)) h' :=
  mm_of_G si_pn_Realm (Nat.le_of_ble_eq_true rfl) (t_Realm_drawn_0 _ _ _ _ hf)
/-! Realm breakBySeed (II)I -/
set_option maxRecDepth 100000 in
theorem dd_Realm_breakBySeed_0 : (decode prog_5_method_26_code 0 = .ok (.aload_n 0, 1)) ∧ (decode prog_5_method_26_code 1 = .ok (.getfield 59, 3)) ∧ (decode prog_5_method_26_code 4 = .ok (.ifCond .le 10, 3)) ∧ (decode prog_5_method_26_code 7 = .ok (.aload_n 0, 1)) ∧ (decode prog_5_method_26_code 8 = .ok (.getfield 55, 3)) ∧ (decode prog_5_method_26_code 11 = .ok (.ifCond .gt 5, 3)) ∧ (decode prog_5_method_26_code 14 = .ok (.iconst 0, 1)) ∧ (decode prog_5_method_26_code 15 = .ok (.ireturn, 1)) ∧ (decode prog_5_method_26_code 16 = .ok (.iconst 0, 1)) ∧ (decode prog_5_method_26_code 17 = .ok (.istore_n 3, 1)) ∧ (decode prog_5_method_26_code 18 = .ok (.iload_n 1, 1)) ∧ (decode prog_5_method_26_code 19 = .ok (.istore 4, 2)) ∧ (decode prog_5_method_26_code 21 = .ok (.iconst 0, 1)) ∧ (decode prog_5_method_26_code 22 = .ok (.istore 5, 2)) ∧ (decode prog_5_method_26_code 24 = .ok (.iload 5, 2)) ∧ (decode prog_5_method_26_code 26 = .ok (.iload_n 2, 1)) ∧ (decode prog_5_method_26_code 27 = .ok (.if_icmp .ge 66, 3)) ∧ (decode prog_5_method_26_code 30 = .ok (.iload 4, 2)) ∧ (decode prog_5_method_26_code 32 = .ok (.invokestatic 151, 3)) ∧ (decode prog_5_method_26_code 35 = .ok (.istore 4, 2)) ∧ (decode prog_5_method_26_code 37 = .ok (.iload 4, 2)) ∧ (decode prog_5_method_26_code 39 = .ok (.invokestatic 154, 3)) ∧ (decode prog_5_method_26_code 42 = .ok (.aload_n 0, 1)) ∧ (decode prog_5_method_26_code 43 = .ok (.getfield 59, 3)) := by
  have h : List.drop 0 prog_5_method_26_code.data.toList = 0x2a :: _ := rfl
  refine ⟨zq_k_n 42 h rfl (zq_o_42 _), ?_⟩
  replace h := zq_nx1 (q := 1) h rfl
  refine ⟨zq_k_u2 180 (fun z => .getfield z) 59 h rfl (zq_o_180 _) (by decide +kernel), ?_⟩
  replace h := zq_nx3 (q := 4) h rfl
  refine ⟨zq_k_s2 158 (fun z => .ifCond .le z) 10 h rfl (zq_o_158 _) (by decide +kernel), ?_⟩
  replace h := zq_nx3 (q := 7) h rfl
  refine ⟨zq_k_n 42 h rfl (zq_o_42 _), ?_⟩
  replace h := zq_nx1 (q := 8) h rfl
  refine ⟨zq_k_u2 180 (fun z => .getfield z) 55 h rfl (zq_o_180 _) (by decide +kernel), ?_⟩
  replace h := zq_nx3 (q := 11) h rfl
  refine ⟨zq_k_s2 157 (fun z => .ifCond .gt z) 5 h rfl (zq_o_157 _) (by decide +kernel), ?_⟩
  replace h := zq_nx3 (q := 14) h rfl
  refine ⟨zq_k_n 3 h rfl (zq_o_3 _), ?_⟩
  replace h := zq_nx1 (q := 15) h rfl
  refine ⟨zq_k_n 172 h rfl (zq_o_172 _), ?_⟩
  replace h := zq_nx1 (q := 16) h rfl
  refine ⟨zq_k_n 3 h rfl (zq_o_3 _), ?_⟩
  replace h := zq_nx1 (q := 17) h rfl
  refine ⟨zq_k_n 62 h rfl (zq_o_62 _), ?_⟩
  replace h := zq_nx1 (q := 18) h rfl
  refine ⟨zq_k_n 27 h rfl (zq_o_27 _), ?_⟩
  replace h := zq_nx1 (q := 19) h rfl
  refine ⟨zq_k_u1 54 (fun z => .istore z) 4 h rfl (zq_o_54 _) (by decide +kernel), ?_⟩
  replace h := zq_nx2 (q := 21) h rfl
  refine ⟨zq_k_n 3 h rfl (zq_o_3 _), ?_⟩
  replace h := zq_nx1 (q := 22) h rfl
  refine ⟨zq_k_u1 54 (fun z => .istore z) 5 h rfl (zq_o_54 _) (by decide +kernel), ?_⟩
  replace h := zq_nx2 (q := 24) h rfl
  refine ⟨zq_k_u1 21 (fun z => .iload z) 5 h rfl (zq_o_21 _) (by decide +kernel), ?_⟩
  replace h := zq_nx2 (q := 26) h rfl
  refine ⟨zq_k_n 28 h rfl (zq_o_28 _), ?_⟩
  replace h := zq_nx1 (q := 27) h rfl
  refine ⟨zq_k_s2 162 (fun z => .if_icmp .ge z) 66 h rfl (zq_o_162 _) (by decide +kernel), ?_⟩
  replace h := zq_nx3 (q := 30) h rfl
  refine ⟨zq_k_u1 21 (fun z => .iload z) 4 h rfl (zq_o_21 _) (by decide +kernel), ?_⟩
  replace h := zq_nx2 (q := 32) h rfl
  refine ⟨zq_k_u2 184 (fun z => .invokestatic z) 151 h rfl (zq_o_184 _) (by decide +kernel), ?_⟩
  replace h := zq_nx3 (q := 35) h rfl
  refine ⟨zq_k_u1 54 (fun z => .istore z) 4 h rfl (zq_o_54 _) (by decide +kernel), ?_⟩
  replace h := zq_nx2 (q := 37) h rfl
  refine ⟨zq_k_u1 21 (fun z => .iload z) 4 h rfl (zq_o_21 _) (by decide +kernel), ?_⟩
  replace h := zq_nx2 (q := 39) h rfl
  refine ⟨zq_k_u2 184 (fun z => .invokestatic z) 154 h rfl (zq_o_184 _) (by decide +kernel), ?_⟩
  replace h := zq_nx3 (q := 42) h rfl
  refine ⟨zq_k_n 42 h rfl (zq_o_42 _), ?_⟩
  replace h := zq_nx1 (q := 43) h rfl
  exact zq_k_u2 180 (fun z => .getfield z) 59 h rfl (zq_o_180 _) (by decide +kernel)
set_option maxRecDepth 100000 in
theorem dd_Realm_breakBySeed_46 : (decode prog_5_method_26_code 46 = .ok (.irem, 1)) ∧ (decode prog_5_method_26_code 47 = .ok (.istore 6, 2)) ∧ (decode prog_5_method_26_code 49 = .ok (.iload 4, 2)) ∧ (decode prog_5_method_26_code 51 = .ok (.invokestatic 151, 3)) ∧ (decode prog_5_method_26_code 54 = .ok (.istore 4, 2)) ∧ (decode prog_5_method_26_code 56 = .ok (.iload 4, 2)) ∧ (decode prog_5_method_26_code 58 = .ok (.invokestatic 154, 3)) ∧ (decode prog_5_method_26_code 61 = .ok (.aload_n 0, 1)) ∧ (decode prog_5_method_26_code 62 = .ok (.getfield 55, 3)) ∧ (decode prog_5_method_26_code 65 = .ok (.irem, 1)) ∧ (decode prog_5_method_26_code 66 = .ok (.istore 7, 2)) ∧ (decode prog_5_method_26_code 68 = .ok (.iload_n 3, 1)) ∧ (decode prog_5_method_26_code 69 = .ok (.aload_n 0, 1)) ∧ (decode prog_5_method_26_code 70 = .ok (.iload 6, 2)) ∧ (decode prog_5_method_26_code 72 = .ok (.iload 7, 2)) ∧ (decode prog_5_method_26_code 74 = .ok (.invokevirtual 157, 3)) ∧ (decode prog_5_method_26_code 77 = .ok (.ifCond .lt 7, 3)) ∧ (decode prog_5_method_26_code 80 = .ok (.iconst 1, 1)) ∧ (decode prog_5_method_26_code 81 = .ok (.goto 4, 3)) ∧ (decode prog_5_method_26_code 84 = .ok (.iconst 0, 1)) ∧ (decode prog_5_method_26_code 85 = .ok (.iadd, 1)) ∧ (decode prog_5_method_26_code 86 = .ok (.istore_n 3, 1)) ∧ (decode prog_5_method_26_code 87 = .ok (.iinc 5 1, 3)) ∧ (decode prog_5_method_26_code 90 = .ok (.goto (-66), 3)) := by
  have h : List.drop 46 prog_5_method_26_code.data.toList = 0x70 :: _ := rfl
  refine ⟨zq_k_n 112 h rfl (zq_o_112 _), ?_⟩
  replace h := zq_nx1 (q := 47) h rfl
  refine ⟨zq_k_u1 54 (fun z => .istore z) 6 h rfl (zq_o_54 _) (by decide +kernel), ?_⟩
  replace h := zq_nx2 (q := 49) h rfl
  refine ⟨zq_k_u1 21 (fun z => .iload z) 4 h rfl (zq_o_21 _) (by decide +kernel), ?_⟩
  replace h := zq_nx2 (q := 51) h rfl
  refine ⟨zq_k_u2 184 (fun z => .invokestatic z) 151 h rfl (zq_o_184 _) (by decide +kernel), ?_⟩
  replace h := zq_nx3 (q := 54) h rfl
  refine ⟨zq_k_u1 54 (fun z => .istore z) 4 h rfl (zq_o_54 _) (by decide +kernel), ?_⟩
  replace h := zq_nx2 (q := 56) h rfl
  refine ⟨zq_k_u1 21 (fun z => .iload z) 4 h rfl (zq_o_21 _) (by decide +kernel), ?_⟩
  replace h := zq_nx2 (q := 58) h rfl
  refine ⟨zq_k_u2 184 (fun z => .invokestatic z) 154 h rfl (zq_o_184 _) (by decide +kernel), ?_⟩
  replace h := zq_nx3 (q := 61) h rfl
  refine ⟨zq_k_n 42 h rfl (zq_o_42 _), ?_⟩
  replace h := zq_nx1 (q := 62) h rfl
  refine ⟨zq_k_u2 180 (fun z => .getfield z) 55 h rfl (zq_o_180 _) (by decide +kernel), ?_⟩
  replace h := zq_nx3 (q := 65) h rfl
  refine ⟨zq_k_n 112 h rfl (zq_o_112 _), ?_⟩
  replace h := zq_nx1 (q := 66) h rfl
  refine ⟨zq_k_u1 54 (fun z => .istore z) 7 h rfl (zq_o_54 _) (by decide +kernel), ?_⟩
  replace h := zq_nx2 (q := 68) h rfl
  refine ⟨zq_k_n 29 h rfl (zq_o_29 _), ?_⟩
  replace h := zq_nx1 (q := 69) h rfl
  refine ⟨zq_k_n 42 h rfl (zq_o_42 _), ?_⟩
  replace h := zq_nx1 (q := 70) h rfl
  refine ⟨zq_k_u1 21 (fun z => .iload z) 6 h rfl (zq_o_21 _) (by decide +kernel), ?_⟩
  replace h := zq_nx2 (q := 72) h rfl
  refine ⟨zq_k_u1 21 (fun z => .iload z) 7 h rfl (zq_o_21 _) (by decide +kernel), ?_⟩
  replace h := zq_nx2 (q := 74) h rfl
  refine ⟨zq_k_u2 182 (fun z => .invokevirtual z) 157 h rfl (zq_o_182 _) (by decide +kernel), ?_⟩
  replace h := zq_nx3 (q := 77) h rfl
  refine ⟨zq_k_s2 155 (fun z => .ifCond .lt z) 7 h rfl (zq_o_155 _) (by decide +kernel), ?_⟩
  replace h := zq_nx3 (q := 80) h rfl
  refine ⟨zq_k_n 4 h rfl (zq_o_4 _), ?_⟩
  replace h := zq_nx1 (q := 81) h rfl
  refine ⟨zq_k_s2 167 (fun z => .goto z) 4 h rfl (zq_o_167 _) (by decide +kernel), ?_⟩
  replace h := zq_nx3 (q := 84) h rfl
  refine ⟨zq_k_n 3 h rfl (zq_o_3 _), ?_⟩
  replace h := zq_nx1 (q := 85) h rfl
  refine ⟨zq_k_n 96 h rfl (zq_o_96 _), ?_⟩
  replace h := zq_nx1 (q := 86) h rfl
  refine ⟨zq_k_n 62 h rfl (zq_o_62 _), ?_⟩
  replace h := zq_nx1 (q := 87) h rfl
  refine ⟨zq_k_iinc 5 1 h rfl (zq_o_132 _) (by decide +kernel) (by decide +kernel), ?_⟩
  replace h := zq_nx3 (q := 90) h rfl
  exact zq_k_s2 167 (fun z => .goto z) (-66) h rfl (zq_o_167 _) (by decide +kernel)
set_option maxRecDepth 100000 in
theorem dd_Realm_breakBySeed_93 : (decode prog_5_method_26_code 93 = .ok (.iload_n 3, 1)) ∧ (decode prog_5_method_26_code 94 = .ok (.ireturn, 1)) := by
  have h : List.drop 93 prog_5_method_26_code.data.toList = 0x1d :: _ := rfl
  refine ⟨zq_k_n 29 h rfl (zq_o_29 _), ?_⟩
  replace h := zq_nx1 (q := 94) h rfl
  exact zq_k_n 172 h rfl (zq_o_172 _)
def f_Realm_breakBySeed_85 (rec24 : Nat → Int32 → Int32 → Int32 → Int32 → mH → Option (Int32 × mH)) (b0 : Nat) (b2 : Int32) (b4 : Int32) (b5 : Int32) (s0 : Int32) (s1 : Int32) (h : mH) : Option (Int32 × mH) :=
  rec24 b0 b2 (s0 + s1) b4 (b5 + (1 : Int32)) h
set_option maxRecDepth 20000 in
theorem t_Realm_breakBySeed_85 {sc : Nat × (Nat → Int32)} (rec24 : Nat → Int32 → Int32 → Int32 → Int32 → mH → Option (Int32 × mH)) (hrec24 : ∀ (b0 : Nat) (b2 : Int32) (b3 : Int32) (b4 : Int32) (b5 : Int32) (h : mH) (r : Int32) (h' : mH), rec24 b0 b2 b3 b4 b5 h = some (r, h') → G sc y_Realm_breakBySeed prog_5_method_26_code 8 (some .int) 4 90 24 [(0, .ref b0), (2, .int b2), (3, .int b3), (4, .int b4), (5, .int b5)] [] h (some (.int r)) h') (b0 : Nat) (b2 : Int32) (b4 : Int32) (b5 : Int32) (s0 : Int32) (s1 : Int32) (h : mH) (r : Int32) (h' : mH) (hf : f_Realm_breakBySeed_85 rec24 b0 b2 b4 b5 s0 s1 h = some (r, h')) : G sc y_Realm_breakBySeed prog_5_method_26_code 8 (some .int) 4 90 85 [(0, .ref b0), (2, .int b2), (4, .int b4), (5, .int b5)] [.int s1, .int s0] h (some (.int r)) h' := by
  unfold f_Realm_breakBySeed_85 at hf
  refine g_iadd (pc := 85) dd_Realm_breakBySeed_46.2.2.2.2.2.2.2.2.2.2.2.2.2.2.2.2.2.2.2.2.1 ?_
  refine g_istore_n (pc := 86) [(3, .int (s0 + s1)), (0, .ref b0), (2, .int b2), (4, .int b4), (5, .int b5)] dd_Realm_breakBySeed_46.2.2.2.2.2.2.2.2.2.2.2.2.2.2.2.2.2.2.2.2.2.1 rfl (Nat.le_of_ble_eq_true rfl) rfl ?_
  refine g_iinc (pc := 87) 4 (b5 + (1 : Int32)) [(5, .int (b5 + (1 : Int32))), (3, .int (s0 + s1)), (0, .ref b0), (2, .int b2), (4, .int b4)] dd_Realm_breakBySeed_46.2.2.2.2.2.2.2.2.2.2.2.2.2.2.2.2.2.2.2.2.2.2.1 rfl rfl (Nat.le_of_ble_eq_true rfl) rfl ?_
  refine g_goto (pc := 90) 24 dd_Realm_breakBySeed_46.2.2.2.2.2.2.2.2.2.2.2.2.2.2.2.2.2.2.2.2.2.2.2 (by decide) ?_
  refine g_lv [2, 3, 1, 4, 0] rfl ?_
  exact hrec24 _ _ _ _ _ _ _ _  hf
def f_Realm_breakBySeed_24b (rec24 : Nat → Int32 → Int32 → Int32 → Int32 → mH → Option (Int32 × mH)) (b0 : Nat) (b2 : Int32) (b3 : Int32) (b4 : Int32) (b5 : Int32) (h : mH) : Option (Int32 × mH) :=
  if b2 ≤ b5 then
    some (b3, h)
  else
    bd2 (f_Realm_nextSeed b4 h) fun x9 h7 =>
    bd2 (f_Realm_drawn x9 h7) fun x12 h10 =>
    bd1 (gI h10 b0 4 1) fun x13 =>
    if x13 = 0 then none else
    bd2 (f_Realm_nextSeed x9 h10) fun x18 h16 =>
    bd2 (f_Realm_drawn x18 h16) fun x21 h19 =>
    bd1 (gI h19 b0 4 0) fun x22 =>
    if x22 = 0 then none else
    bd1 (kC h19 b0 4) fun _ =>
    bd2 (f_Realm_breakOnce b0 (x12 - x12 / x13 * x13) (x21 - x21 / x22 * x22) h19) fun x29 h27 =>
    if x29 < 0 then
      f_Realm_breakBySeed_85 rec24 b0 b2 x18 b5 b3 (0 : Int32) h27
    else
      f_Realm_breakBySeed_85 rec24 b0 b2 x18 b5 b3 (1 : Int32) h27
set_option maxRecDepth 20000 in
theorem t_Realm_breakBySeed_24b {sc : Nat × (Nat → Int32)} (rec24 : Nat → Int32 → Int32 → Int32 → Int32 → mH → Option (Int32 × mH)) (hrec24 : ∀ (b0 : Nat) (b2 : Int32) (b3 : Int32) (b4 : Int32) (b5 : Int32) (h : mH) (r : Int32) (h' : mH), rec24 b0 b2 b3 b4 b5 h = some (r, h') → G sc y_Realm_breakBySeed prog_5_method_26_code 8 (some .int) 4 90 24 [(0, .ref b0), (2, .int b2), (3, .int b3), (4, .int b4), (5, .int b5)] [] h (some (.int r)) h') (b0 : Nat) (b2 : Int32) (b3 : Int32) (b4 : Int32) (b5 : Int32) (h : mH) (r : Int32) (h' : mH) (hf : f_Realm_breakBySeed_24b rec24 b0 b2 b3 b4 b5 h = some (r, h')) : G sc y_Realm_breakBySeed prog_5_method_26_code 8 (some .int) 4 90 24 [(0, .ref b0), (2, .int b2), (3, .int b3), (4, .int b4), (5, .int b5)] [] h (some (.int r)) h' := by
  unfold f_Realm_breakBySeed_24b at hf
  refine g_iload (pc := 24) 4 dd_Realm_breakBySeed_0.2.2.2.2.2.2.2.2.2.2.2.2.2.2.1 rfl ?_
  refine g_iload_n (pc := 26) 1 dd_Realm_breakBySeed_0.2.2.2.2.2.2.2.2.2.2.2.2.2.2.2.1 rfl rfl ?_
  refine g_icmpge (pc := 27) 93 dd_Realm_breakBySeed_0.2.2.2.2.2.2.2.2.2.2.2.2.2.2.2.2.1 (by decide) (fun c31 => ?_) (fun c31 => ?_)
  · replace hf := (if_pos c31).symm.trans hf
    refine g_iload_n (pc := 93) 2 dd_Realm_breakBySeed_93.1 rfl rfl ?_
    obtain ⟨rfl, rfl⟩ := ret2 hf
    exact g_iret (pc := 94) rfl dd_Realm_breakBySeed_93.2
  · replace hf := (if_neg c31).symm.trans hf
    refine g_iload (pc := 30) 3 dd_Realm_breakBySeed_0.2.2.2.2.2.2.2.2.2.2.2.2.2.2.2.2.2.1 rfl ?_
    obtain ⟨x9, h7, e8, hf⟩ := bd2_e hf
    refine g_callS (pc := 32) [.int b4] (site_of si_Realm_nextSeed (by decide) (by decide)) wd_846 wd_847 dd_Realm_breakBySeed_0.2.2.2.2.2.2.2.2.2.2.2.2.2.2.2.2.2.2.1 (Nat.le_of_ble_eq_true rfl) (fun z => absurd z si_na_Realm_nextSeed) (fun z => absurd z si_na_Realm_nextSeed) (fun z => absurd z si_na_Realm_nextSeed) (c_Realm_nextSeed e8) rfl ?_
    refine g_st [.int x9] rfl ?_
    refine g_istore (pc := 35) [(4, .int x9), (0, .ref b0), (2, .int b2), (3, .int b3), (5, .int b5)] dd_Realm_breakBySeed_0.2.2.2.2.2.2.2.2.2.2.2.2.2.2.2.2.2.2.2.1 (Nat.le_of_ble_eq_true rfl) rfl ?_
    refine g_iload (pc := 37) 0 dd_Realm_breakBySeed_0.2.2.2.2.2.2.2.2.2.2.2.2.2.2.2.2.2.2.2.2.1 rfl ?_
    obtain ⟨x12, h10, e11, hf⟩ := bd2_e hf
    refine g_callS (pc := 39) [.int x9] (site_of si_Realm_drawn (by decide) (by decide)) wd_850 wd_851 dd_Realm_breakBySeed_0.2.2.2.2.2.2.2.2.2.2.2.2.2.2.2.2.2.2.2.2.2.1 (Nat.le_of_ble_eq_true rfl) (fun z => absurd z si_na_Realm_drawn) (fun z => absurd z si_na_Realm_drawn) (fun z => absurd z si_na_Realm_drawn) (c_Realm_drawn e11) rfl ?_
    refine g_st [.int x12] rfl ?_
    refine g_aload_n (pc := 42) 1 dd_Realm_breakBySeed_0.2.2.2.2.2.2.2.2.2.2.2.2.2.2.2.2.2.2.2.2.2.2.1 rfl rfl ?_
    obtain ⟨x13, e14, hf⟩ := bd1_e hf
    refine g_get (pc := 43) (ci := 4) (kk := 1) dd_Realm_breakBySeed_0.2.2.2.2.2.2.2.2.2.2.2.2.2.2.2.2.2.2.2.2.2.2.2 rfl in_Realm (by decide) wd_98 (gI_spec e14) ?_
    have c15 : ¬ x13 = 0 := fun z => absurd ((if_pos z).symm.trans hf) (by simp)
    replace hf := (if_neg c15).symm.trans hf
    refine g_irem (pc := 46) dd_Realm_breakBySeed_46.1 c15 ?_
    refine g_istore (pc := 47) [(6, .int (x12 - x12 / x13 * x13)), (4, .int x9), (0, .ref b0), (2, .int b2), (3, .int b3), (5, .int b5)] dd_Realm_breakBySeed_46.2.1 (Nat.le_of_ble_eq_true rfl) rfl ?_
    refine g_iload (pc := 49) 1 dd_Realm_breakBySeed_46.2.2.1 rfl ?_
    obtain ⟨x18, h16, e17, hf⟩ := bd2_e hf
    refine g_callS (pc := 51) [.int x9] (site_of si_Realm_nextSeed (by decide) (by decide)) wd_846 wd_847 dd_Realm_breakBySeed_46.2.2.2.1 (Nat.le_of_ble_eq_true rfl) (fun z => absurd z si_na_Realm_nextSeed) (fun z => absurd z si_na_Realm_nextSeed) (fun z => absurd z si_na_Realm_nextSeed) (c_Realm_nextSeed e17) rfl ?_
    refine g_st [.int x18] rfl ?_
    refine g_istore (pc := 54) [(4, .int x18), (6, .int (x12 - x12 / x13 * x13)), (0, .ref b0), (2, .int b2), (3, .int b3), (5, .int b5)] dd_Realm_breakBySeed_46.2.2.2.2.1 (Nat.le_of_ble_eq_true rfl) rfl ?_
    refine g_iload (pc := 56) 0 dd_Realm_breakBySeed_46.2.2.2.2.2.1 rfl ?_
    obtain ⟨x21, h19, e20, hf⟩ := bd2_e hf
    refine g_callS (pc := 58) [.int x18] (site_of si_Realm_drawn (by decide) (by decide)) wd_850 wd_851 dd_Realm_breakBySeed_46.2.2.2.2.2.2.1 (Nat.le_of_ble_eq_true rfl) (fun z => absurd z si_na_Realm_drawn) (fun z => absurd z si_na_Realm_drawn) (fun z => absurd z si_na_Realm_drawn) (c_Realm_drawn e20) rfl ?_
    refine g_st [.int x21] rfl ?_
    refine g_aload_n (pc := 61) 2 dd_Realm_breakBySeed_46.2.2.2.2.2.2.2.1 rfl rfl ?_
    obtain ⟨x22, e23, hf⟩ := bd1_e hf
    refine g_get (pc := 62) (ci := 4) (kk := 0) dd_Realm_breakBySeed_46.2.2.2.2.2.2.2.2.1 rfl in_Realm (by decide) wd_93 (gI_spec e23) ?_
    have c24 : ¬ x22 = 0 := fun z => absurd ((if_pos z).symm.trans hf) (by simp)
    replace hf := (if_neg c24).symm.trans hf
    refine g_irem (pc := 65) dd_Realm_breakBySeed_46.2.2.2.2.2.2.2.2.2.1 c24 ?_
    refine g_istore (pc := 66) [(7, .int (x21 - x21 / x22 * x22)), (4, .int x18), (6, .int (x12 - x12 / x13 * x13)), (0, .ref b0), (2, .int b2), (3, .int b3), (5, .int b5)] dd_Realm_breakBySeed_46.2.2.2.2.2.2.2.2.2.2.1 (Nat.le_of_ble_eq_true rfl) rfl ?_
    refine g_iload_n (pc := 68) 5 dd_Realm_breakBySeed_46.2.2.2.2.2.2.2.2.2.2.2.1 rfl rfl ?_
    refine g_aload_n (pc := 69) 3 dd_Realm_breakBySeed_46.2.2.2.2.2.2.2.2.2.2.2.2.1 rfl rfl ?_
    refine g_iload (pc := 70) 2 dd_Realm_breakBySeed_46.2.2.2.2.2.2.2.2.2.2.2.2.2.1 rfl ?_
    refine g_iload (pc := 72) 0 dd_Realm_breakBySeed_46.2.2.2.2.2.2.2.2.2.2.2.2.2.2.1 rfl ?_
    obtain ⟨u26, e25, hf⟩ := bd1_e hf
    obtain ⟨x29, h27, e28, hf⟩ := bd2_e hf
    refine g_callV (pc := 74) (ci := 4) [.int (x12 - x12 / x13 * x13), .int (x21 - x21 / x22 * x22)] (site_of si_Realm_breakOnce (by decide) (by decide)) wd_853 wd_626 wd_627 dd_Realm_breakBySeed_46.2.2.2.2.2.2.2.2.2.2.2.2.2.2.2.1 rfl e25 (Nat.le_of_ble_eq_true rfl) (fun z => absurd z si_na_Realm_breakOnce) (fun z => absurd z si_na_Realm_breakOnce) (fun z => absurd z si_na_Realm_breakOnce) (c_Realm_breakOnce e28) rfl ?_
    refine g_st [.int x29, .int b3] rfl ?_
    refine g_iflt (pc := 77) 84 dd_Realm_breakBySeed_46.2.2.2.2.2.2.2.2.2.2.2.2.2.2.2.2.1 (by decide) (fun c30 => ?_) (fun c30 => ?_)
    · replace hf := (if_pos c30).symm.trans hf
      refine g_iconst (pc := 84) (0 : Int32) dd_Realm_breakBySeed_46.2.2.2.2.2.2.2.2.2.2.2.2.2.2.2.2.2.2.2.1 (by decide) ?_
      refine g_lv [3, 4, 1, 6] rfl ?_
      exact t_Realm_breakBySeed_85 rec24 hrec24 _ _ _ _ _ _ _ _ _  hf
    · replace hf := (if_neg c30).symm.trans hf
      refine g_iconst (pc := 80) (1 : Int32) dd_Realm_breakBySeed_46.2.2.2.2.2.2.2.2.2.2.2.2.2.2.2.2.2.1 (by decide) ?_
      refine g_goto (pc := 81) 85 dd_Realm_breakBySeed_46.2.2.2.2.2.2.2.2.2.2.2.2.2.2.2.2.2.2.1 (by decide) ?_
      refine g_lv [3, 4, 1, 6] rfl ?_
      exact t_Realm_breakBySeed_85 rec24 hrec24 _ _ _ _ _ _ _ _ _  hf
def f_Realm_breakBySeed_24  : Nat → Nat → Int32 → Int32 → Int32 → Int32 → mH → Option (Int32 × mH)
  | 0 => fun _ _ _ _ _ _ => none
  | n + 1 => f_Realm_breakBySeed_24b  (f_Realm_breakBySeed_24  n)
theorem t_Realm_breakBySeed_24 {sc : Nat × (Nat → Int32)}  : ∀ (n : Nat) (b0 : Nat) (b2 : Int32) (b3 : Int32) (b4 : Int32) (b5 : Int32) (h : mH) (r : Int32) (h' : mH) (hf : f_Realm_breakBySeed_24  n b0 b2 b3 b4 b5 h = some (r, h')), G sc y_Realm_breakBySeed prog_5_method_26_code 8 (some .int) 4 90 24 [(0, .ref b0), (2, .int b2), (3, .int b3), (4, .int b4), (5, .int b5)] [] h (some (.int r)) h'
  | 0, _, _, _, _, _, _, _, _, hf => by cases hf
  | n + 1, _, _, _, _, _, _, _, _, hf => t_Realm_breakBySeed_24b  (f_Realm_breakBySeed_24  n) (t_Realm_breakBySeed_24  n) _ _ _ _ _ _ _ _ hf
def f_Realm_breakBySeed_14   (h : mH) : Option (Int32 × mH) :=
  some ((0 : Int32), h)
set_option maxRecDepth 20000 in
theorem t_Realm_breakBySeed_14 {sc : Nat × (Nat → Int32)}   (h : mH) (r : Int32) (h' : mH) (hf : f_Realm_breakBySeed_14   h = some (r, h')) : G sc y_Realm_breakBySeed prog_5_method_26_code 8 (some .int) 4 90 14 [] [] h (some (.int r)) h' := by
  unfold f_Realm_breakBySeed_14 at hf
  refine g_iconst (pc := 14) (0 : Int32) dd_Realm_breakBySeed_0.2.2.2.2.2.2.1 (by decide) ?_
  obtain ⟨rfl, rfl⟩ := ret2 hf
  exact g_iret (pc := 15) rfl dd_Realm_breakBySeed_0.2.2.2.2.2.2.2.1
def f_Realm_breakBySeed_0  (a0 : Nat) (a1 : Int32) (a2 : Int32) (h : mH) : Option (Int32 × mH) :=
  bd1 (gI h a0 4 1) fun x1 =>
  if x1 ≤ 0 then
    f_Realm_breakBySeed_14  h
  else
    bd1 (gI h a0 4 0) fun x3 =>
    if 0 < x3 then
      f_Realm_breakBySeed_24  FU a0 a2 (0 : Int32) a1 (0 : Int32) h
    else
      f_Realm_breakBySeed_14  h
set_option maxRecDepth 20000 in
theorem t_Realm_breakBySeed_0 {sc : Nat × (Nat → Int32)}  (a0 : Nat) (a1 : Int32) (a2 : Int32) (h : mH) (r : Int32) (h' : mH) (hf : f_Realm_breakBySeed_0  a0 a1 a2 h = some (r, h')) : G sc y_Realm_breakBySeed prog_5_method_26_code 8 (some .int) 4 90 0 [(0, .ref a0), (1, .int a1), (2, .int a2)] [] h (some (.int r)) h' := by
  unfold f_Realm_breakBySeed_0 at hf
  refine g_aload_n (pc := 0) 0 dd_Realm_breakBySeed_0.1 rfl rfl ?_
  obtain ⟨x1, e2, hf⟩ := bd1_e hf
  refine g_get (pc := 1) (ci := 4) (kk := 1) dd_Realm_breakBySeed_0.2.1 rfl in_Realm (by decide) wd_98 (gI_spec e2) ?_
  refine g_ifle (pc := 4) 14 dd_Realm_breakBySeed_0.2.2.1 (by decide) (fun c6 => ?_) (fun c6 => ?_)
  · replace hf := (if_pos c6).symm.trans hf
    refine g_lv [] rfl ?_
    exact t_Realm_breakBySeed_14  _ _ _  hf
  · replace hf := (if_neg c6).symm.trans hf
    refine g_aload_n (pc := 7) 0 dd_Realm_breakBySeed_0.2.2.2.1 rfl rfl ?_
    obtain ⟨x3, e4, hf⟩ := bd1_e hf
    refine g_get (pc := 8) (ci := 4) (kk := 0) dd_Realm_breakBySeed_0.2.2.2.2.1 rfl in_Realm (by decide) wd_93 (gI_spec e4) ?_
    refine g_ifgt (pc := 11) 16 dd_Realm_breakBySeed_0.2.2.2.2.2.1 (by decide) (fun c5 => ?_) (fun c5 => ?_)
    · replace hf := (if_pos c5).symm.trans hf
      refine g_iconst (pc := 16) (0 : Int32) dd_Realm_breakBySeed_0.2.2.2.2.2.2.2.2.1 (by decide) ?_
      refine g_istore_n (pc := 17) [(3, .int (0 : Int32)), (0, .ref a0), (1, .int a1), (2, .int a2)] dd_Realm_breakBySeed_0.2.2.2.2.2.2.2.2.2.1 rfl (Nat.le_of_ble_eq_true rfl) rfl ?_
      refine g_iload_n (pc := 18) 2 dd_Realm_breakBySeed_0.2.2.2.2.2.2.2.2.2.2.1 rfl rfl ?_
      refine g_istore (pc := 19) [(4, .int a1), (3, .int (0 : Int32)), (0, .ref a0), (1, .int a1), (2, .int a2)] dd_Realm_breakBySeed_0.2.2.2.2.2.2.2.2.2.2.2.1 (Nat.le_of_ble_eq_true rfl) rfl ?_
      refine g_iconst (pc := 21) (0 : Int32) dd_Realm_breakBySeed_0.2.2.2.2.2.2.2.2.2.2.2.2.1 (by decide) ?_
      refine g_istore (pc := 22) [(5, .int (0 : Int32)), (4, .int a1), (3, .int (0 : Int32)), (0, .ref a0), (1, .int a1), (2, .int a2)] dd_Realm_breakBySeed_0.2.2.2.2.2.2.2.2.2.2.2.2.2.1 (Nat.le_of_ble_eq_true rfl) rfl ?_
      refine g_lv [3, 5, 2, 1, 0] rfl ?_
      exact t_Realm_breakBySeed_24  FU _ _ _ _ _ _ _ _  hf
    · replace hf := (if_neg c5).symm.trans hf
      refine g_lv [] rfl ?_
      exact t_Realm_breakBySeed_14  _ _ _  hf
def f_Realm_breakBySeed (a0 : Nat) (a1 : Int32) (a2 : Int32) (h : mH) : Option (Int32 × mH) := f_Realm_breakBySeed_0 a0 a1 a2 h
theorem c_Realm_breakBySeed {sc : Nat × (Nat → Int32)} {a0 : Nat} {a1 : Int32} {a2 : Int32} {h : mH} {r : Int32} {h' : mH} (hf : f_Realm_breakBySeed a0 a1 a2 h = some (r, h')) : MM sc y_Realm_breakBySeed prog_5_method_26_code 8 (some .int) 4 90 [.ref a0, .int a1, .int a2] h (some (.int r)) h' :=
  mm_of_G si_pn_Realm (Nat.le_of_ble_eq_true rfl) (t_Realm_breakBySeed_0 _ _ _ _ _ _ hf)
/-! Q wild (III)I -/
set_option maxRecDepth 100000 in
theorem dd_Q_wild_0 : (decode prog_1_method_32_code 0 = .ok (.iload_n 2, 1)) ∧ (decode prog_1_method_32_code 1 = .ok (.iconst 1, 1)) ∧ (decode prog_1_method_32_code 2 = .ok (.bipush 60, 2)) ∧ (decode prog_1_method_32_code 4 = .ok (.invokestatic 62, 3)) ∧ (decode prog_1_method_32_code 7 = .ok (.ifCond .eq 12, 3)) ∧ (decode prog_1_method_32_code 10 = .ok (.iload_n 3, 1)) ∧ (decode prog_1_method_32_code 11 = .ok (.iconst 0, 1)) ∧ (decode prog_1_method_32_code 12 = .ok (.iconst 1, 1)) ∧ (decode prog_1_method_32_code 13 = .ok (.invokestatic 62, 3)) ∧ (decode prog_1_method_32_code 16 = .ok (.ifCond .ne 5, 3)) ∧ (decode prog_1_method_32_code 19 = .ok (.iconst (-1), 1)) ∧ (decode prog_1_method_32_code 20 = .ok (.ireturn, 1)) ∧ (decode prog_1_method_32_code 21 = .ok (.aload_n 0, 1)) ∧ (decode prog_1_method_32_code 22 = .ok (.getfield 19, 3)) ∧ (decode prog_1_method_32_code 25 = .ok (.getfield 94, 3)) ∧ (decode prog_1_method_32_code 28 = .ok (.ifCond .le 13, 3)) ∧ (decode prog_1_method_32_code 31 = .ok (.aload_n 0, 1)) ∧ (decode prog_1_method_32_code 32 = .ok (.getfield 19, 3)) ∧ (decode prog_1_method_32_code 35 = .ok (.getfield 91, 3)) ∧ (decode prog_1_method_32_code 38 = .ok (.ifCond .gt 6, 3)) ∧ (decode prog_1_method_32_code 41 = .ok (.bipush (-2), 2)) ∧ (decode prog_1_method_32_code 43 = .ok (.ireturn, 1)) ∧ (decode prog_1_method_32_code 44 = .ok (.aload_n 0, 1)) ∧ (decode prog_1_method_32_code 45 = .ok (.getfield 23, 3)) := by
  have h : List.drop 0 prog_1_method_32_code.data.toList = 0x1c :: _ := rfl
  refine ⟨zq_k_n 28 h rfl (zq_o_28 _), ?_⟩
  replace h := zq_nx1 (q := 1) h rfl
  refine ⟨zq_k_n 4 h rfl (zq_o_4 _), ?_⟩
  replace h := zq_nx1 (q := 2) h rfl
  refine ⟨zq_k_s1 16 (fun z => .bipush z) 60 h rfl (zq_o_16 _) (by decide +kernel), ?_⟩
  replace h := zq_nx2 (q := 4) h rfl
  refine ⟨zq_k_u2 184 (fun z => .invokestatic z) 62 h rfl (zq_o_184 _) (by decide +kernel), ?_⟩
  replace h := zq_nx3 (q := 7) h rfl
  refine ⟨zq_k_s2 153 (fun z => .ifCond .eq z) 12 h rfl (zq_o_153 _) (by decide +kernel), ?_⟩
  replace h := zq_nx3 (q := 10) h rfl
  refine ⟨zq_k_n 29 h rfl (zq_o_29 _), ?_⟩
  replace h := zq_nx1 (q := 11) h rfl
  refine ⟨zq_k_n 3 h rfl (zq_o_3 _), ?_⟩
  replace h := zq_nx1 (q := 12) h rfl
  refine ⟨zq_k_n 4 h rfl (zq_o_4 _), ?_⟩
  replace h := zq_nx1 (q := 13) h rfl
  refine ⟨zq_k_u2 184 (fun z => .invokestatic z) 62 h rfl (zq_o_184 _) (by decide +kernel), ?_⟩
  replace h := zq_nx3 (q := 16) h rfl
  refine ⟨zq_k_s2 154 (fun z => .ifCond .ne z) 5 h rfl (zq_o_154 _) (by decide +kernel), ?_⟩
  replace h := zq_nx3 (q := 19) h rfl
  refine ⟨zq_k_n 2 h rfl (zq_o_2 _), ?_⟩
  replace h := zq_nx1 (q := 20) h rfl
  refine ⟨zq_k_n 172 h rfl (zq_o_172 _), ?_⟩
  replace h := zq_nx1 (q := 21) h rfl
  refine ⟨zq_k_n 42 h rfl (zq_o_42 _), ?_⟩
  replace h := zq_nx1 (q := 22) h rfl
  refine ⟨zq_k_u2 180 (fun z => .getfield z) 19 h rfl (zq_o_180 _) (by decide +kernel), ?_⟩
  replace h := zq_nx3 (q := 25) h rfl
  refine ⟨zq_k_u2 180 (fun z => .getfield z) 94 h rfl (zq_o_180 _) (by decide +kernel), ?_⟩
  replace h := zq_nx3 (q := 28) h rfl
  refine ⟨zq_k_s2 158 (fun z => .ifCond .le z) 13 h rfl (zq_o_158 _) (by decide +kernel), ?_⟩
  replace h := zq_nx3 (q := 31) h rfl
  refine ⟨zq_k_n 42 h rfl (zq_o_42 _), ?_⟩
  replace h := zq_nx1 (q := 32) h rfl
  refine ⟨zq_k_u2 180 (fun z => .getfield z) 19 h rfl (zq_o_180 _) (by decide +kernel), ?_⟩
  replace h := zq_nx3 (q := 35) h rfl
  refine ⟨zq_k_u2 180 (fun z => .getfield z) 91 h rfl (zq_o_180 _) (by decide +kernel), ?_⟩
  replace h := zq_nx3 (q := 38) h rfl
  refine ⟨zq_k_s2 157 (fun z => .ifCond .gt z) 6 h rfl (zq_o_157 _) (by decide +kernel), ?_⟩
  replace h := zq_nx3 (q := 41) h rfl
  refine ⟨zq_k_s1 16 (fun z => .bipush z) (-2) h rfl (zq_o_16 _) (by decide +kernel), ?_⟩
  replace h := zq_nx2 (q := 43) h rfl
  refine ⟨zq_k_n 172 h rfl (zq_o_172 _), ?_⟩
  replace h := zq_nx1 (q := 44) h rfl
  refine ⟨zq_k_n 42 h rfl (zq_o_42 _), ?_⟩
  replace h := zq_nx1 (q := 45) h rfl
  exact zq_k_u2 180 (fun z => .getfield z) 23 h rfl (zq_o_180 _) (by decide +kernel)
set_option maxRecDepth 100000 in
theorem dd_Q_wild_48 : (decode prog_1_method_32_code 48 = .ok (.aload_n 0, 1)) ∧ (decode prog_1_method_32_code 49 = .ok (.getfield 19, 3)) ∧ (decode prog_1_method_32_code 52 = .ok (.invokevirtual 81, 3)) ∧ (decode prog_1_method_32_code 55 = .ok (.aload_n 0, 1)) ∧ (decode prog_1_method_32_code 56 = .ok (.getfield 23, 3)) ∧ (decode prog_1_method_32_code 59 = .ok (.iload_n 1, 1)) ∧ (decode prog_1_method_32_code 60 = .ok (.iload_n 2, 1)) ∧ (decode prog_1_method_32_code 61 = .ok (.invokevirtual 255, 3)) ∧ (decode prog_1_method_32_code 64 = .ok (.istore 4, 2)) ∧ (decode prog_1_method_32_code 66 = .ok (.iload_n 3, 1)) ∧ (decode prog_1_method_32_code 67 = .ok (.ifCond .ne 8, 3)) ∧ (decode prog_1_method_32_code 70 = .ok (.iload 4, 2)) ∧ (decode prog_1_method_32_code 72 = .ok (.goto 10, 3)) ∧ (decode prog_1_method_32_code 75 = .ok (.aload_n 0, 1)) ∧ (decode prog_1_method_32_code 76 = .ok (.getfield 23, 3)) ∧ (decode prog_1_method_32_code 79 = .ok (.invokevirtual 192, 3)) ∧ (decode prog_1_method_32_code 82 = .ok (.ireturn, 1)) := by
  have h : List.drop 48 prog_1_method_32_code.data.toList = 0x2a :: _ := rfl
  refine ⟨zq_k_n 42 h rfl (zq_o_42 _), ?_⟩
  replace h := zq_nx1 (q := 49) h rfl
  refine ⟨zq_k_u2 180 (fun z => .getfield z) 19 h rfl (zq_o_180 _) (by decide +kernel), ?_⟩
  replace h := zq_nx3 (q := 52) h rfl
  refine ⟨zq_k_u2 182 (fun z => .invokevirtual z) 81 h rfl (zq_o_182 _) (by decide +kernel), ?_⟩
  replace h := zq_nx3 (q := 55) h rfl
  refine ⟨zq_k_n 42 h rfl (zq_o_42 _), ?_⟩
  replace h := zq_nx1 (q := 56) h rfl
  refine ⟨zq_k_u2 180 (fun z => .getfield z) 23 h rfl (zq_o_180 _) (by decide +kernel), ?_⟩
  replace h := zq_nx3 (q := 59) h rfl
  refine ⟨zq_k_n 27 h rfl (zq_o_27 _), ?_⟩
  replace h := zq_nx1 (q := 60) h rfl
  refine ⟨zq_k_n 28 h rfl (zq_o_28 _), ?_⟩
  replace h := zq_nx1 (q := 61) h rfl
  refine ⟨zq_k_u2 182 (fun z => .invokevirtual z) 255 h rfl (zq_o_182 _) (by decide +kernel), ?_⟩
  replace h := zq_nx3 (q := 64) h rfl
  refine ⟨zq_k_u1 54 (fun z => .istore z) 4 h rfl (zq_o_54 _) (by decide +kernel), ?_⟩
  replace h := zq_nx2 (q := 66) h rfl
  refine ⟨zq_k_n 29 h rfl (zq_o_29 _), ?_⟩
  replace h := zq_nx1 (q := 67) h rfl
  refine ⟨zq_k_s2 154 (fun z => .ifCond .ne z) 8 h rfl (zq_o_154 _) (by decide +kernel), ?_⟩
  replace h := zq_nx3 (q := 70) h rfl
  refine ⟨zq_k_u1 21 (fun z => .iload z) 4 h rfl (zq_o_21 _) (by decide +kernel), ?_⟩
  replace h := zq_nx2 (q := 72) h rfl
  refine ⟨zq_k_s2 167 (fun z => .goto z) 10 h rfl (zq_o_167 _) (by decide +kernel), ?_⟩
  replace h := zq_nx3 (q := 75) h rfl
  refine ⟨zq_k_n 42 h rfl (zq_o_42 _), ?_⟩
  replace h := zq_nx1 (q := 76) h rfl
  refine ⟨zq_k_u2 180 (fun z => .getfield z) 23 h rfl (zq_o_180 _) (by decide +kernel), ?_⟩
  replace h := zq_nx3 (q := 79) h rfl
  refine ⟨zq_k_u2 182 (fun z => .invokevirtual z) 192 h rfl (zq_o_182 _) (by decide +kernel), ?_⟩
  replace h := zq_nx3 (q := 82) h rfl
  exact zq_k_n 172 h rfl (zq_o_172 _)
def f_Q_wild_41   (h : mH) : Option (Int32 × mH) :=
  some (((-2) : Int32), h)
set_option maxRecDepth 20000 in
theorem t_Q_wild_41 {sc : Nat × (Nat → Int32)}   (h : mH) (r : Int32) (h' : mH) (hf : f_Q_wild_41   h = some (r, h')) : G sc y_Q_wild prog_1_method_32_code 5 (some .int) 5 117 41 [] [] h (some (.int r)) h' := by
  unfold f_Q_wild_41 at hf
  refine g_bipush (pc := 41) ((-2) : Int32) dd_Q_wild_0.2.2.2.2.2.2.2.2.2.2.2.2.2.2.2.2.2.2.2.2.1 (by decide) ?_
  obtain ⟨rfl, rfl⟩ := ret2 hf
  exact g_iret (pc := 43) rfl dd_Q_wild_0.2.2.2.2.2.2.2.2.2.2.2.2.2.2.2.2.2.2.2.2.2.1
def f_Q_wild_19   (h : mH) : Option (Int32 × mH) :=
  some (((-1) : Int32), h)
set_option maxRecDepth 20000 in
theorem t_Q_wild_19 {sc : Nat × (Nat → Int32)}   (h : mH) (r : Int32) (h' : mH) (hf : f_Q_wild_19   h = some (r, h')) : G sc y_Q_wild prog_1_method_32_code 5 (some .int) 5 117 19 [] [] h (some (.int r)) h' := by
  unfold f_Q_wild_19 at hf
  refine g_iconst (pc := 19) ((-1) : Int32) dd_Q_wild_0.2.2.2.2.2.2.2.2.2.2.1 (by decide) ?_
  obtain ⟨rfl, rfl⟩ := ret2 hf
  exact g_iret (pc := 20) rfl dd_Q_wild_0.2.2.2.2.2.2.2.2.2.2.2.1
def f_Q_wild_0  (a0 : Nat) (a1 : Int32) (a2 : Int32) (a3 : Int32) (h : mH) : Option (Int32 × mH) :=
  bd2 (f_Q_isWithin a2 (1 : Int32) (60 : Int32) h) fun x3 h1 =>
  if x3 = 0 then
    f_Q_wild_19  h1
  else
    bd2 (f_Q_isWithin a3 (0 : Int32) (1 : Int32) h1) fun x6 h4 =>
    if x6 = 0 then
      f_Q_wild_19  h4
    else
      bd1 (gR h4 a0 0 1) fun x7 =>
      bd1 (gI h4 x7 4 1) fun x9 =>
      if x9 ≤ 0 then
        f_Q_wild_41  h4
      else
        bd1 (gR h4 a0 0 1) fun x11 =>
        bd1 (gI h4 x11 4 0) fun x13 =>
        if 0 < x13 then
          bd1 (gR h4 a0 0 2) fun x15 =>
          bd1 (gR h4 a0 0 1) fun x17 =>
          bd1 (kC h4 x15 4) fun _ =>
          bd1 (f_Realm_copyFrom x15 x17 h4) fun h21 =>
          bd1 (gR h21 a0 0 2) fun x23 =>
          bd1 (kC h21 x23 4) fun _ =>
          bd2 (f_Realm_breakBySeed x23 a1 a2 h21) fun x29 h27 =>
          if a3 = 0 then
            some (x29, h27)
          else
            bd1 (gR h27 a0 0 2) fun x30 =>
            bd1 (kC h27 x30 4) fun _ =>
            bd2 (f_Realm_lapsing x30 h27) fun x36 h34 =>
            some (x36, h34)
        else
          f_Q_wild_41  h4
set_option maxRecDepth 20000 in
theorem t_Q_wild_0 {sc : Nat × (Nat → Int32)}  (a0 : Nat) (a1 : Int32) (a2 : Int32) (a3 : Int32) (h : mH) (r : Int32) (h' : mH) (hf : f_Q_wild_0  a0 a1 a2 a3 h = some (r, h')) : G sc y_Q_wild prog_1_method_32_code 5 (some .int) 5 117 0 [(0, .ref a0), (1, .int a1), (2, .int a2), (3, .int a3)] [] h (some (.int r)) h' := by
  unfold f_Q_wild_0 at hf
  refine g_iload_n (pc := 0) 2 dd_Q_wild_0.1 rfl rfl ?_
  refine g_iconst (pc := 1) (1 : Int32) dd_Q_wild_0.2.1 (by decide) ?_
  refine g_bipush (pc := 2) (60 : Int32) dd_Q_wild_0.2.2.1 (by decide) ?_
  obtain ⟨x3, h1, e2, hf⟩ := bd2_e hf
  refine g_callS (pc := 4) [.int a2, .int (1 : Int32), .int (60 : Int32)] (site_of si_Q_isWithin (by decide) (by decide)) wd_331 wd_332 dd_Q_wild_0.2.2.2.1 (Nat.le_of_ble_eq_true rfl) (fun z => absurd z si_na_Q_isWithin) (fun z => absurd z si_na_Q_isWithin) (fun z => absurd z si_na_Q_isWithin) (c_Q_isWithin e2) rfl ?_
  refine g_st [.int x3] rfl ?_
  refine g_ifeq (pc := 7) 19 dd_Q_wild_0.2.2.2.2.1 (by decide) (fun c41 => ?_) (fun c41 => ?_)
  · replace hf := (if_pos c41).symm.trans hf
    refine g_lv [] rfl ?_
    exact t_Q_wild_19  _ _ _  hf
  · replace hf := (if_neg c41).symm.trans hf
    refine g_iload_n (pc := 10) 3 dd_Q_wild_0.2.2.2.2.2.1 rfl rfl ?_
    refine g_iconst (pc := 11) (0 : Int32) dd_Q_wild_0.2.2.2.2.2.2.1 (by decide) ?_
    refine g_iconst (pc := 12) (1 : Int32) dd_Q_wild_0.2.2.2.2.2.2.2.1 (by decide) ?_
    obtain ⟨x6, h4, e5, hf⟩ := bd2_e hf
    refine g_callS (pc := 13) [.int a3, .int (0 : Int32), .int (1 : Int32)] (site_of si_Q_isWithin (by decide) (by decide)) wd_331 wd_332 dd_Q_wild_0.2.2.2.2.2.2.2.2.1 (Nat.le_of_ble_eq_true rfl) (fun z => absurd z si_na_Q_isWithin) (fun z => absurd z si_na_Q_isWithin) (fun z => absurd z si_na_Q_isWithin) (c_Q_isWithin e5) rfl ?_
    refine g_st [.int x6] rfl ?_
    refine g_ifne (pc := 16) 21 dd_Q_wild_0.2.2.2.2.2.2.2.2.2.1 (by decide) (fun c40 => ?_) (fun c40 => ?_)
    · replace hf := (if_neg c40).symm.trans hf
      refine g_aload_n (pc := 21) 0 dd_Q_wild_0.2.2.2.2.2.2.2.2.2.2.2.2.1 rfl rfl ?_
      obtain ⟨x7, e8, hf⟩ := bd1_e hf
      refine g_get (pc := 22) (ci := 0) (kk := 1) dd_Q_wild_0.2.2.2.2.2.2.2.2.2.2.2.2.2.1 rfl in_Q (by decide) wd_297 (gR_spec e8) ?_
      obtain ⟨x9, e10, hf⟩ := bd1_e hf
      refine g_get (pc := 25) (ci := 4) (kk := 1) dd_Q_wild_0.2.2.2.2.2.2.2.2.2.2.2.2.2.2.1 rfl in_Realm (by decide) wd_102 (gI_spec e10) ?_
      refine g_ifle (pc := 28) 41 dd_Q_wild_0.2.2.2.2.2.2.2.2.2.2.2.2.2.2.2.1 (by decide) (fun c39 => ?_) (fun c39 => ?_)
      · replace hf := (if_pos c39).symm.trans hf
        refine g_lv [] rfl ?_
        exact t_Q_wild_41  _ _ _  hf
      · replace hf := (if_neg c39).symm.trans hf
        refine g_aload_n (pc := 31) 0 dd_Q_wild_0.2.2.2.2.2.2.2.2.2.2.2.2.2.2.2.2.1 rfl rfl ?_
        obtain ⟨x11, e12, hf⟩ := bd1_e hf
        refine g_get (pc := 32) (ci := 0) (kk := 1) dd_Q_wild_0.2.2.2.2.2.2.2.2.2.2.2.2.2.2.2.2.2.1 rfl in_Q (by decide) wd_297 (gR_spec e12) ?_
        obtain ⟨x13, e14, hf⟩ := bd1_e hf
        refine g_get (pc := 35) (ci := 4) (kk := 0) dd_Q_wild_0.2.2.2.2.2.2.2.2.2.2.2.2.2.2.2.2.2.2.1 rfl in_Realm (by decide) wd_97 (gI_spec e14) ?_
        refine g_ifgt (pc := 38) 44 dd_Q_wild_0.2.2.2.2.2.2.2.2.2.2.2.2.2.2.2.2.2.2.2.1 (by decide) (fun c38 => ?_) (fun c38 => ?_)
        · replace hf := (if_pos c38).symm.trans hf
          refine g_aload_n (pc := 44) 0 dd_Q_wild_0.2.2.2.2.2.2.2.2.2.2.2.2.2.2.2.2.2.2.2.2.2.2.1 rfl rfl ?_
          obtain ⟨x15, e16, hf⟩ := bd1_e hf
          refine g_get (pc := 45) (ci := 0) (kk := 2) dd_Q_wild_0.2.2.2.2.2.2.2.2.2.2.2.2.2.2.2.2.2.2.2.2.2.2.2 rfl in_Q (by decide) wd_298 (gR_spec e16) ?_
          refine g_aload_n (pc := 48) 0 dd_Q_wild_48.1 rfl rfl ?_
          obtain ⟨x17, e18, hf⟩ := bd1_e hf
          refine g_get (pc := 49) (ci := 0) (kk := 1) dd_Q_wild_48.2.1 rfl in_Q (by decide) wd_297 (gR_spec e18) ?_
          obtain ⟨u20, e19, hf⟩ := bd1_e hf
          obtain ⟨h21, e22, hf⟩ := bd1_e hf
          refine g_callV (pc := 52) (ci := 4) [.ref x17] (site_of si_Realm_copyFrom (by decide) (by decide)) wd_495 wd_496 wd_497 dd_Q_wild_48.2.2.1 rfl e19 (Nat.le_of_ble_eq_true rfl) (fun z => absurd z si_na_Realm_copyFrom) (fun z => absurd z si_na_Realm_copyFrom) (fun z => absurd z si_na_Realm_copyFrom) (c_Realm_copyFrom e22) rfl ?_
          refine g_st [] rfl ?_
          refine g_aload_n (pc := 55) 0 dd_Q_wild_48.2.2.2.1 rfl rfl ?_
          obtain ⟨x23, e24, hf⟩ := bd1_e hf
          refine g_get (pc := 56) (ci := 0) (kk := 2) dd_Q_wild_48.2.2.2.2.1 rfl in_Q (by decide) wd_298 (gR_spec e24) ?_
          refine g_iload_n (pc := 59) 1 dd_Q_wild_48.2.2.2.2.2.1 rfl rfl ?_
          refine g_iload_n (pc := 60) 2 dd_Q_wild_48.2.2.2.2.2.2.1 rfl rfl ?_
          obtain ⟨u26, e25, hf⟩ := bd1_e hf
          obtain ⟨x29, h27, e28, hf⟩ := bd2_e hf
          refine g_callV (pc := 61) (ci := 4) [.int a1, .int a2] (site_of si_Realm_breakBySeed (by decide) (by decide)) wd_842 wd_843 wd_844 dd_Q_wild_48.2.2.2.2.2.2.2.1 rfl e25 (Nat.le_of_ble_eq_true rfl) (fun z => absurd z si_na_Realm_breakBySeed) (fun z => absurd z si_na_Realm_breakBySeed) (fun z => absurd z si_na_Realm_breakBySeed) (c_Realm_breakBySeed e28) rfl ?_
          refine g_st [.int x29] rfl ?_
          refine g_istore (pc := 64) [(4, .int x29), (0, .ref a0), (1, .int a1), (2, .int a2), (3, .int a3)] dd_Q_wild_48.2.2.2.2.2.2.2.2.1 (Nat.le_of_ble_eq_true rfl) rfl ?_
          refine g_iload_n (pc := 66) 4 dd_Q_wild_48.2.2.2.2.2.2.2.2.2.1 rfl rfl ?_
          refine g_ifne (pc := 67) 75 dd_Q_wild_48.2.2.2.2.2.2.2.2.2.2.1 (by decide) (fun c37 => ?_) (fun c37 => ?_)
          · replace hf := (if_neg c37).symm.trans hf
            refine g_aload_n (pc := 75) 1 dd_Q_wild_48.2.2.2.2.2.2.2.2.2.2.2.2.2.1 rfl rfl ?_
            obtain ⟨x30, e31, hf⟩ := bd1_e hf
            refine g_get (pc := 76) (ci := 0) (kk := 2) dd_Q_wild_48.2.2.2.2.2.2.2.2.2.2.2.2.2.2.1 rfl in_Q (by decide) wd_298 (gR_spec e31) ?_
            obtain ⟨u33, e32, hf⟩ := bd1_e hf
            obtain ⟨x36, h34, e35, hf⟩ := bd2_e hf
            refine g_callV (pc := 79) (ci := 4) [] (site_of si_Realm_lapsing (by decide) (by decide)) wd_652 wd_643 wd_644 dd_Q_wild_48.2.2.2.2.2.2.2.2.2.2.2.2.2.2.2.1 rfl e32 (Nat.le_of_ble_eq_true rfl) (fun z => absurd z si_na_Realm_lapsing) (fun z => absurd z si_na_Realm_lapsing) (fun z => absurd z si_na_Realm_lapsing) (c_Realm_lapsing e35) rfl ?_
            refine g_st [.int x36] rfl ?_
            obtain ⟨rfl, rfl⟩ := ret2 hf
            exact g_iret (pc := 82) rfl dd_Q_wild_48.2.2.2.2.2.2.2.2.2.2.2.2.2.2.2.2
          · replace hf := (if_pos c37).symm.trans hf
            refine g_iload (pc := 70) 0 dd_Q_wild_48.2.2.2.2.2.2.2.2.2.2.2.1 rfl ?_
            refine g_goto (pc := 72) 82 dd_Q_wild_48.2.2.2.2.2.2.2.2.2.2.2.2.1 (by decide) ?_
            obtain ⟨rfl, rfl⟩ := ret2 hf
            exact g_iret (pc := 82) rfl dd_Q_wild_48.2.2.2.2.2.2.2.2.2.2.2.2.2.2.2.2
        · replace hf := (if_neg c38).symm.trans hf
          refine g_lv [] rfl ?_
          exact t_Q_wild_41  _ _ _  hf
    · replace hf := (if_pos c40).symm.trans hf
      refine g_lv [] rfl ?_
      exact t_Q_wild_19  _ _ _  hf
def f_Q_wild (a0 : Nat) (a1 : Int32) (a2 : Int32) (a3 : Int32) (h : mH) : Option (Int32 × mH) := f_Q_wild_0 a0 a1 a2 a3 h
theorem c_Q_wild {sc : Nat × (Nat → Int32)} {a0 : Nat} {a1 : Int32} {a2 : Int32} {a3 : Int32} {h : mH} {r : Int32} {h' : mH} (hf : f_Q_wild a0 a1 a2 a3 h = some (r, h')) : MM sc y_Q_wild prog_1_method_32_code 5 (some .int) 5 117 [.ref a0, .int a1, .int a2, .int a3] h (some (.int r)) h' :=
  mm_of_G si_pn_Q (Nat.le_of_ble_eq_true rfl) (t_Q_wild_0 _ _ _ _ _ _ _ hf)
/-! Q keep (I)I -/
set_option maxRecDepth 100000 in
theorem dd_Q_keep_0 : (decode prog_1_method_33_code 0 = .ok (.iload_n 1, 1)) ∧ (decode prog_1_method_33_code 1 = .ok (.iconst 0, 1)) ∧ (decode prog_1_method_33_code 2 = .ok (.iconst 1, 1)) ∧ (decode prog_1_method_33_code 3 = .ok (.invokestatic 62, 3)) ∧ (decode prog_1_method_33_code 6 = .ok (.ifCond .ne 5, 3)) ∧ (decode prog_1_method_33_code 9 = .ok (.iconst (-1), 1)) ∧ (decode prog_1_method_33_code 10 = .ok (.ireturn, 1)) ∧ (decode prog_1_method_33_code 11 = .ok (.aload_n 0, 1)) ∧ (decode prog_1_method_33_code 12 = .ok (.getfield 30, 3)) ∧ (decode prog_1_method_33_code 15 = .ok (.iload_n 1, 1)) ∧ (decode prog_1_method_33_code 16 = .ok (.baload, 1)) ∧ (decode prog_1_method_33_code 17 = .ok (.ifCond .eq 7, 3)) ∧ (decode prog_1_method_33_code 20 = .ok (.iconst 1, 1)) ∧ (decode prog_1_method_33_code 21 = .ok (.goto 4, 3)) ∧ (decode prog_1_method_33_code 24 = .ok (.iconst 0, 1)) ∧ (decode prog_1_method_33_code 25 = .ok (.istore_n 2, 1)) ∧ (decode prog_1_method_33_code 26 = .ok (.aload_n 0, 1)) ∧ (decode prog_1_method_33_code 27 = .ok (.getfield 26, 3)) ∧ (decode prog_1_method_33_code 30 = .ok (.iload_n 1, 1)) ∧ (decode prog_1_method_33_code 31 = .ok (.aaload, 1)) ∧ (decode prog_1_method_33_code 32 = .ok (.aload_n 0, 1)) ∧ (decode prog_1_method_33_code 33 = .ok (.getfield 19, 3)) ∧ (decode prog_1_method_33_code 36 = .ok (.invokevirtual 81, 3)) ∧ (decode prog_1_method_33_code 39 = .ok (.aload_n 0, 1)) := by
  have h : List.drop 0 prog_1_method_33_code.data.toList = 0x1b :: _ := rfl
  refine ⟨zq_k_n 27 h rfl (zq_o_27 _), ?_⟩
  replace h := zq_nx1 (q := 1) h rfl
  refine ⟨zq_k_n 3 h rfl (zq_o_3 _), ?_⟩
  replace h := zq_nx1 (q := 2) h rfl
  refine ⟨zq_k_n 4 h rfl (zq_o_4 _), ?_⟩
  replace h := zq_nx1 (q := 3) h rfl
  refine ⟨zq_k_u2 184 (fun z => .invokestatic z) 62 h rfl (zq_o_184 _) (by decide +kernel), ?_⟩
  replace h := zq_nx3 (q := 6) h rfl
  refine ⟨zq_k_s2 154 (fun z => .ifCond .ne z) 5 h rfl (zq_o_154 _) (by decide +kernel), ?_⟩
  replace h := zq_nx3 (q := 9) h rfl
  refine ⟨zq_k_n 2 h rfl (zq_o_2 _), ?_⟩
  replace h := zq_nx1 (q := 10) h rfl
  refine ⟨zq_k_n 172 h rfl (zq_o_172 _), ?_⟩
  replace h := zq_nx1 (q := 11) h rfl
  refine ⟨zq_k_n 42 h rfl (zq_o_42 _), ?_⟩
  replace h := zq_nx1 (q := 12) h rfl
  refine ⟨zq_k_u2 180 (fun z => .getfield z) 30 h rfl (zq_o_180 _) (by decide +kernel), ?_⟩
  replace h := zq_nx3 (q := 15) h rfl
  refine ⟨zq_k_n 27 h rfl (zq_o_27 _), ?_⟩
  replace h := zq_nx1 (q := 16) h rfl
  refine ⟨zq_k_n 51 h rfl (zq_o_51 _), ?_⟩
  replace h := zq_nx1 (q := 17) h rfl
  refine ⟨zq_k_s2 153 (fun z => .ifCond .eq z) 7 h rfl (zq_o_153 _) (by decide +kernel), ?_⟩
  replace h := zq_nx3 (q := 20) h rfl
  refine ⟨zq_k_n 4 h rfl (zq_o_4 _), ?_⟩
  replace h := zq_nx1 (q := 21) h rfl
  refine ⟨zq_k_s2 167 (fun z => .goto z) 4 h rfl (zq_o_167 _) (by decide +kernel), ?_⟩
  replace h := zq_nx3 (q := 24) h rfl
  refine ⟨zq_k_n 3 h rfl (zq_o_3 _), ?_⟩
  replace h := zq_nx1 (q := 25) h rfl
  refine ⟨zq_k_n 61 h rfl (zq_o_61 _), ?_⟩
  replace h := zq_nx1 (q := 26) h rfl
  refine ⟨zq_k_n 42 h rfl (zq_o_42 _), ?_⟩
  replace h := zq_nx1 (q := 27) h rfl
  refine ⟨zq_k_u2 180 (fun z => .getfield z) 26 h rfl (zq_o_180 _) (by decide +kernel), ?_⟩
  replace h := zq_nx3 (q := 30) h rfl
  refine ⟨zq_k_n 27 h rfl (zq_o_27 _), ?_⟩
  replace h := zq_nx1 (q := 31) h rfl
  refine ⟨zq_k_n 50 h rfl (zq_o_50 _), ?_⟩
  replace h := zq_nx1 (q := 32) h rfl
  refine ⟨zq_k_n 42 h rfl (zq_o_42 _), ?_⟩
  replace h := zq_nx1 (q := 33) h rfl
  refine ⟨zq_k_u2 180 (fun z => .getfield z) 19 h rfl (zq_o_180 _) (by decide +kernel), ?_⟩
  replace h := zq_nx3 (q := 36) h rfl
  refine ⟨zq_k_u2 182 (fun z => .invokevirtual z) 81 h rfl (zq_o_182 _) (by decide +kernel), ?_⟩
  replace h := zq_nx3 (q := 39) h rfl
  exact zq_k_n 42 h rfl (zq_o_42 _)
set_option maxRecDepth 100000 in
theorem dd_Q_keep_40 : (decode prog_1_method_33_code 40 = .ok (.getfield 30, 3)) ∧ (decode prog_1_method_33_code 43 = .ok (.iload_n 1, 1)) ∧ (decode prog_1_method_33_code 44 = .ok (.iconst 1, 1)) ∧ (decode prog_1_method_33_code 45 = .ok (.bastore, 1)) ∧ (decode prog_1_method_33_code 46 = .ok (.iload_n 2, 1)) ∧ (decode prog_1_method_33_code 47 = .ok (.ireturn, 1)) := by
  have h : List.drop 40 prog_1_method_33_code.data.toList = 0xb4 :: _ := rfl
  refine ⟨zq_k_u2 180 (fun z => .getfield z) 30 h rfl (zq_o_180 _) (by decide +kernel), ?_⟩
  replace h := zq_nx3 (q := 43) h rfl
  refine ⟨zq_k_n 27 h rfl (zq_o_27 _), ?_⟩
  replace h := zq_nx1 (q := 44) h rfl
  refine ⟨zq_k_n 4 h rfl (zq_o_4 _), ?_⟩
  replace h := zq_nx1 (q := 45) h rfl
  refine ⟨zq_k_n 84 h rfl (zq_o_84 _), ?_⟩
  replace h := zq_nx1 (q := 46) h rfl
  refine ⟨zq_k_n 28 h rfl (zq_o_28 _), ?_⟩
  replace h := zq_nx1 (q := 47) h rfl
  exact zq_k_n 172 h rfl (zq_o_172 _)
def f_Q_keep_25  (b0 : Nat) (b1 : Int32) (s0 : Int32) (h : mH) : Option (Int32 × mH) :=
  bd1 (gR h b0 0 3) fun x10 =>
  bd1 (aR h 4 x10 b1) fun x12 =>
  bd1 (gR h b0 0 1) fun x14 =>
  bd1 (kC h x12 4) fun _ =>
  bd1 (f_Realm_copyFrom x12 x14 h) fun h18 =>
  bd1 (gR h18 b0 0 4) fun x20 =>
  bd1 (sI h18 2 x20 b1 (vp_nar .boolean (1 : Int32))) fun h22 =>
  some (s0, h22)
set_option maxRecDepth 20000 in
theorem t_Q_keep_25 {sc : Nat × (Nat → Int32)}  (b0 : Nat) (b1 : Int32) (s0 : Int32) (h : mH) (r : Int32) (h' : mH) (hf : f_Q_keep_25  b0 b1 s0 h = some (r, h')) : G sc y_Q_keep prog_1_method_33_code 3 (some .int) 3 82 25 [(0, .ref b0), (1, .int b1)] [.int s0] h (some (.int r)) h' := by
  unfold f_Q_keep_25 at hf
  refine g_istore_n (pc := 25) [(2, .int s0), (0, .ref b0), (1, .int b1)] dd_Q_keep_0.2.2.2.2.2.2.2.2.2.2.2.2.2.2.2.1 rfl (Nat.le_of_ble_eq_true rfl) rfl ?_
  refine g_aload_n (pc := 26) 1 dd_Q_keep_0.2.2.2.2.2.2.2.2.2.2.2.2.2.2.2.2.1 rfl rfl ?_
  obtain ⟨x10, e11, hf⟩ := bd1_e hf
  refine g_get (pc := 27) (ci := 0) (kk := 3) dd_Q_keep_0.2.2.2.2.2.2.2.2.2.2.2.2.2.2.2.2.2.1 rfl in_Q (by decide) wd_299 (gR_spec e11) ?_
  refine g_iload_n (pc := 30) 2 dd_Q_keep_0.2.2.2.2.2.2.2.2.2.2.2.2.2.2.2.2.2.2.1 rfl rfl ?_
  obtain ⟨x12, e13, hf⟩ := bd1_e hf
  refine g_aald (pc := 31) "QuotaLaws$Realm" dd_Q_keep_0.2.2.2.2.2.2.2.2.2.2.2.2.2.2.2.2.2.2.2.1 (fun _ => rfl) e13 ?_
  refine g_aload_n (pc := 32) 1 dd_Q_keep_0.2.2.2.2.2.2.2.2.2.2.2.2.2.2.2.2.2.2.2.2.1 rfl rfl ?_
  obtain ⟨x14, e15, hf⟩ := bd1_e hf
  refine g_get (pc := 33) (ci := 0) (kk := 1) dd_Q_keep_0.2.2.2.2.2.2.2.2.2.2.2.2.2.2.2.2.2.2.2.2.2.1 rfl in_Q (by decide) wd_297 (gR_spec e15) ?_
  obtain ⟨u17, e16, hf⟩ := bd1_e hf
  obtain ⟨h18, e19, hf⟩ := bd1_e hf
  refine g_callV (pc := 36) (ci := 4) [.ref x14] (site_of si_Realm_copyFrom (by decide) (by decide)) wd_495 wd_496 wd_497 dd_Q_keep_0.2.2.2.2.2.2.2.2.2.2.2.2.2.2.2.2.2.2.2.2.2.2.1 rfl e16 (Nat.le_of_ble_eq_true rfl) (fun z => absurd z si_na_Realm_copyFrom) (fun z => absurd z si_na_Realm_copyFrom) (fun z => absurd z si_na_Realm_copyFrom) (c_Realm_copyFrom e19) rfl ?_
  refine g_st [] rfl ?_
  refine g_aload_n (pc := 39) 1 dd_Q_keep_0.2.2.2.2.2.2.2.2.2.2.2.2.2.2.2.2.2.2.2.2.2.2.2 rfl rfl ?_
  obtain ⟨x20, e21, hf⟩ := bd1_e hf
  refine g_get (pc := 40) (ci := 0) (kk := 4) dd_Q_keep_40.1 rfl in_Q (by decide) wd_300 (gR_spec e21) ?_
  refine g_iload_n (pc := 43) 2 dd_Q_keep_40.2.1 rfl rfl ?_
  refine g_iconst (pc := 44) (1 : Int32) dd_Q_keep_40.2.2.1 (by decide) ?_
  obtain ⟨h22, e23, hf⟩ := bd1_e hf
  refine g_zast (pc := 45) dd_Q_keep_40.2.2.2.1 e23 ?_
  refine g_iload_n (pc := 46) 0 dd_Q_keep_40.2.2.2.2.1 rfl rfl ?_
  obtain ⟨rfl, rfl⟩ := ret2 hf
  exact g_iret (pc := 47) rfl dd_Q_keep_40.2.2.2.2.2
def f_Q_keep_0  (a0 : Nat) (a1 : Int32) (h : mH) : Option (Int32 × mH) :=
  bd2 (f_Q_isWithin a1 (0 : Int32) (1 : Int32) h) fun x3 h1 =>
  if x3 = 0 then
    some (((-1) : Int32), h1)
  else
    bd1 (gR h1 a0 0 4) fun x4 =>
    bd1 (aI h1 2 x4 a1) fun x6 =>
    if x6 = 0 then
      f_Q_keep_25  a0 a1 (0 : Int32) h1
    else
      f_Q_keep_25  a0 a1 (1 : Int32) h1
set_option maxRecDepth 20000 in
theorem t_Q_keep_0 {sc : Nat × (Nat → Int32)}  (a0 : Nat) (a1 : Int32) (h : mH) (r : Int32) (h' : mH) (hf : f_Q_keep_0  a0 a1 h = some (r, h')) : G sc y_Q_keep prog_1_method_33_code 3 (some .int) 3 82 0 [(0, .ref a0), (1, .int a1)] [] h (some (.int r)) h' := by
  unfold f_Q_keep_0 at hf
  refine g_iload_n (pc := 0) 1 dd_Q_keep_0.1 rfl rfl ?_
  refine g_iconst (pc := 1) (0 : Int32) dd_Q_keep_0.2.1 (by decide) ?_
  refine g_iconst (pc := 2) (1 : Int32) dd_Q_keep_0.2.2.1 (by decide) ?_
  obtain ⟨x3, h1, e2, hf⟩ := bd2_e hf
  refine g_callS (pc := 3) [.int a1, .int (0 : Int32), .int (1 : Int32)] (site_of si_Q_isWithin (by decide) (by decide)) wd_331 wd_332 dd_Q_keep_0.2.2.2.1 (Nat.le_of_ble_eq_true rfl) (fun z => absurd z si_na_Q_isWithin) (fun z => absurd z si_na_Q_isWithin) (fun z => absurd z si_na_Q_isWithin) (c_Q_isWithin e2) rfl ?_
  refine g_st [.int x3] rfl ?_
  refine g_ifne (pc := 6) 11 dd_Q_keep_0.2.2.2.2.1 (by decide) (fun c9 => ?_) (fun c9 => ?_)
  · replace hf := (if_neg c9).symm.trans hf
    refine g_aload_n (pc := 11) 0 dd_Q_keep_0.2.2.2.2.2.2.2.1 rfl rfl ?_
    obtain ⟨x4, e5, hf⟩ := bd1_e hf
    refine g_get (pc := 12) (ci := 0) (kk := 4) dd_Q_keep_0.2.2.2.2.2.2.2.2.1 rfl in_Q (by decide) wd_300 (gR_spec e5) ?_
    refine g_iload_n (pc := 15) 1 dd_Q_keep_0.2.2.2.2.2.2.2.2.2.1 rfl rfl ?_
    obtain ⟨x6, e7, hf⟩ := bd1_e hf
    refine g_zald (pc := 16) dd_Q_keep_0.2.2.2.2.2.2.2.2.2.2.1 e7 ?_
    refine g_ifeq (pc := 17) 24 dd_Q_keep_0.2.2.2.2.2.2.2.2.2.2.2.1 (by decide) (fun c8 => ?_) (fun c8 => ?_)
    · replace hf := (if_pos c8).symm.trans hf
      refine g_iconst (pc := 24) (0 : Int32) dd_Q_keep_0.2.2.2.2.2.2.2.2.2.2.2.2.2.2.1 (by decide) ?_
      refine g_lv [0, 1] rfl ?_
      exact t_Q_keep_25  _ _ _ _ _ _  hf
    · replace hf := (if_neg c8).symm.trans hf
      refine g_iconst (pc := 20) (1 : Int32) dd_Q_keep_0.2.2.2.2.2.2.2.2.2.2.2.2.1 (by decide) ?_
      refine g_goto (pc := 21) 25 dd_Q_keep_0.2.2.2.2.2.2.2.2.2.2.2.2.2.1 (by decide) ?_
      refine g_lv [0, 1] rfl ?_
      exact t_Q_keep_25  _ _ _ _ _ _  hf
  · replace hf := (if_pos c9).symm.trans hf
    refine g_iconst (pc := 9) ((-1) : Int32) dd_Q_keep_0.2.2.2.2.2.1 (by decide) ?_
    obtain ⟨rfl, rfl⟩ := ret2 hf
    exact g_iret (pc := 10) rfl dd_Q_keep_0.2.2.2.2.2.2.1
def f_Q_keep (a0 : Nat) (a1 : Int32) (h : mH) : Option (Int32 × mH) := f_Q_keep_0 a0 a1 h
theorem c_Q_keep {sc : Nat × (Nat → Int32)} {a0 : Nat} {a1 : Int32} {h : mH} {r : Int32} {h' : mH} (hf : f_Q_keep a0 a1 h = some (r, h')) : MM sc y_Q_keep prog_1_method_33_code 3 (some .int) 3 82 [.ref a0, .int a1] h (some (.int r)) h' :=
  mm_of_G si_pn_Q (Nat.le_of_ble_eq_true rfl) (t_Q_keep_0 _ _ _ _ _ hf)
/-! Q back (I)I -/
set_option maxRecDepth 100000 in
theorem dd_Q_back_0 : (decode prog_1_method_34_code 0 = .ok (.iload_n 1, 1)) ∧ (decode prog_1_method_34_code 1 = .ok (.iconst 0, 1)) ∧ (decode prog_1_method_34_code 2 = .ok (.iconst 1, 1)) ∧ (decode prog_1_method_34_code 3 = .ok (.invokestatic 62, 3)) ∧ (decode prog_1_method_34_code 6 = .ok (.ifCond .ne 5, 3)) ∧ (decode prog_1_method_34_code 9 = .ok (.iconst (-1), 1)) ∧ (decode prog_1_method_34_code 10 = .ok (.ireturn, 1)) ∧ (decode prog_1_method_34_code 11 = .ok (.aload_n 0, 1)) ∧ (decode prog_1_method_34_code 12 = .ok (.getfield 30, 3)) ∧ (decode prog_1_method_34_code 15 = .ok (.iload_n 1, 1)) ∧ (decode prog_1_method_34_code 16 = .ok (.baload, 1)) ∧ (decode prog_1_method_34_code 17 = .ok (.ifCond .ne 6, 3)) ∧ (decode prog_1_method_34_code 20 = .ok (.bipush (-2), 2)) ∧ (decode prog_1_method_34_code 22 = .ok (.ireturn, 1)) ∧ (decode prog_1_method_34_code 23 = .ok (.aload_n 0, 1)) ∧ (decode prog_1_method_34_code 24 = .ok (.getfield 19, 3)) ∧ (decode prog_1_method_34_code 27 = .ok (.aload_n 0, 1)) ∧ (decode prog_1_method_34_code 28 = .ok (.getfield 26, 3)) ∧ (decode prog_1_method_34_code 31 = .ok (.iload_n 1, 1)) ∧ (decode prog_1_method_34_code 32 = .ok (.aaload, 1)) ∧ (decode prog_1_method_34_code 33 = .ok (.invokevirtual 81, 3)) ∧ (decode prog_1_method_34_code 36 = .ok (.aload_n 0, 1)) ∧ (decode prog_1_method_34_code 37 = .ok (.getfield 19, 3)) ∧ (decode prog_1_method_34_code 40 = .ok (.getfield 97, 3)) := by
  have h : List.drop 0 prog_1_method_34_code.data.toList = 0x1b :: _ := rfl
  refine ⟨zq_k_n 27 h rfl (zq_o_27 _), ?_⟩
  replace h := zq_nx1 (q := 1) h rfl
  refine ⟨zq_k_n 3 h rfl (zq_o_3 _), ?_⟩
  replace h := zq_nx1 (q := 2) h rfl
  refine ⟨zq_k_n 4 h rfl (zq_o_4 _), ?_⟩
  replace h := zq_nx1 (q := 3) h rfl
  refine ⟨zq_k_u2 184 (fun z => .invokestatic z) 62 h rfl (zq_o_184 _) (by decide +kernel), ?_⟩
  replace h := zq_nx3 (q := 6) h rfl
  refine ⟨zq_k_s2 154 (fun z => .ifCond .ne z) 5 h rfl (zq_o_154 _) (by decide +kernel), ?_⟩
  replace h := zq_nx3 (q := 9) h rfl
  refine ⟨zq_k_n 2 h rfl (zq_o_2 _), ?_⟩
  replace h := zq_nx1 (q := 10) h rfl
  refine ⟨zq_k_n 172 h rfl (zq_o_172 _), ?_⟩
  replace h := zq_nx1 (q := 11) h rfl
  refine ⟨zq_k_n 42 h rfl (zq_o_42 _), ?_⟩
  replace h := zq_nx1 (q := 12) h rfl
  refine ⟨zq_k_u2 180 (fun z => .getfield z) 30 h rfl (zq_o_180 _) (by decide +kernel), ?_⟩
  replace h := zq_nx3 (q := 15) h rfl
  refine ⟨zq_k_n 27 h rfl (zq_o_27 _), ?_⟩
  replace h := zq_nx1 (q := 16) h rfl
  refine ⟨zq_k_n 51 h rfl (zq_o_51 _), ?_⟩
  replace h := zq_nx1 (q := 17) h rfl
  refine ⟨zq_k_s2 154 (fun z => .ifCond .ne z) 6 h rfl (zq_o_154 _) (by decide +kernel), ?_⟩
  replace h := zq_nx3 (q := 20) h rfl
  refine ⟨zq_k_s1 16 (fun z => .bipush z) (-2) h rfl (zq_o_16 _) (by decide +kernel), ?_⟩
  replace h := zq_nx2 (q := 22) h rfl
  refine ⟨zq_k_n 172 h rfl (zq_o_172 _), ?_⟩
  replace h := zq_nx1 (q := 23) h rfl
  refine ⟨zq_k_n 42 h rfl (zq_o_42 _), ?_⟩
  replace h := zq_nx1 (q := 24) h rfl
  refine ⟨zq_k_u2 180 (fun z => .getfield z) 19 h rfl (zq_o_180 _) (by decide +kernel), ?_⟩
  replace h := zq_nx3 (q := 27) h rfl
  refine ⟨zq_k_n 42 h rfl (zq_o_42 _), ?_⟩
  replace h := zq_nx1 (q := 28) h rfl
  refine ⟨zq_k_u2 180 (fun z => .getfield z) 26 h rfl (zq_o_180 _) (by decide +kernel), ?_⟩
  replace h := zq_nx3 (q := 31) h rfl
  refine ⟨zq_k_n 27 h rfl (zq_o_27 _), ?_⟩
  replace h := zq_nx1 (q := 32) h rfl
  refine ⟨zq_k_n 50 h rfl (zq_o_50 _), ?_⟩
  replace h := zq_nx1 (q := 33) h rfl
  refine ⟨zq_k_u2 182 (fun z => .invokevirtual z) 81 h rfl (zq_o_182 _) (by decide +kernel), ?_⟩
  replace h := zq_nx3 (q := 36) h rfl
  refine ⟨zq_k_n 42 h rfl (zq_o_42 _), ?_⟩
  replace h := zq_nx1 (q := 37) h rfl
  refine ⟨zq_k_u2 180 (fun z => .getfield z) 19 h rfl (zq_o_180 _) (by decide +kernel), ?_⟩
  replace h := zq_nx3 (q := 40) h rfl
  exact zq_k_u2 180 (fun z => .getfield z) 97 h rfl (zq_o_180 _) (by decide +kernel)
set_option maxRecDepth 100000 in
theorem dd_Q_back_43 : decode prog_1_method_34_code 43 = .ok (.ireturn, 1) := by
  have h : List.drop 43 prog_1_method_34_code.data.toList = 0xac :: _ := rfl
  exact zq_k_n 172 h rfl (zq_o_172 _)
def f_Q_back_0  (a0 : Nat) (a1 : Int32) (h : mH) : Option (Int32 × mH) :=
  bd2 (f_Q_isWithin a1 (0 : Int32) (1 : Int32) h) fun x3 h1 =>
  if x3 = 0 then
    some (((-1) : Int32), h1)
  else
    bd1 (gR h1 a0 0 4) fun x4 =>
    bd1 (aI h1 2 x4 a1) fun x6 =>
    if x6 = 0 then
      some (((-2) : Int32), h1)
    else
      bd1 (gR h1 a0 0 1) fun x8 =>
      bd1 (gR h1 a0 0 3) fun x10 =>
      bd1 (aR h1 4 x10 a1) fun x12 =>
      bd1 (kC h1 x8 4) fun _ =>
      bd1 (f_Realm_copyFrom x8 x12 h1) fun h16 =>
      bd1 (gR h16 a0 0 1) fun x18 =>
      bd1 (gI h16 x18 4 2) fun x20 =>
      some (x20, h16)
set_option maxRecDepth 20000 in
theorem t_Q_back_0 {sc : Nat × (Nat → Int32)}  (a0 : Nat) (a1 : Int32) (h : mH) (r : Int32) (h' : mH) (hf : f_Q_back_0  a0 a1 h = some (r, h')) : G sc y_Q_back prog_1_method_34_code 2 (some .int) 3 82 0 [(0, .ref a0), (1, .int a1)] [] h (some (.int r)) h' := by
  unfold f_Q_back_0 at hf
  refine g_iload_n (pc := 0) 1 dd_Q_back_0.1 rfl rfl ?_
  refine g_iconst (pc := 1) (0 : Int32) dd_Q_back_0.2.1 (by decide) ?_
  refine g_iconst (pc := 2) (1 : Int32) dd_Q_back_0.2.2.1 (by decide) ?_
  obtain ⟨x3, h1, e2, hf⟩ := bd2_e hf
  refine g_callS (pc := 3) [.int a1, .int (0 : Int32), .int (1 : Int32)] (site_of si_Q_isWithin (by decide) (by decide)) wd_331 wd_332 dd_Q_back_0.2.2.2.1 (Nat.le_of_ble_eq_true rfl) (fun z => absurd z si_na_Q_isWithin) (fun z => absurd z si_na_Q_isWithin) (fun z => absurd z si_na_Q_isWithin) (c_Q_isWithin e2) rfl ?_
  refine g_st [.int x3] rfl ?_
  refine g_ifne (pc := 6) 11 dd_Q_back_0.2.2.2.2.1 (by decide) (fun c23 => ?_) (fun c23 => ?_)
  · replace hf := (if_neg c23).symm.trans hf
    refine g_aload_n (pc := 11) 0 dd_Q_back_0.2.2.2.2.2.2.2.1 rfl rfl ?_
    obtain ⟨x4, e5, hf⟩ := bd1_e hf
    refine g_get (pc := 12) (ci := 0) (kk := 4) dd_Q_back_0.2.2.2.2.2.2.2.2.1 rfl in_Q (by decide) wd_300 (gR_spec e5) ?_
    refine g_iload_n (pc := 15) 1 dd_Q_back_0.2.2.2.2.2.2.2.2.2.1 rfl rfl ?_
    obtain ⟨x6, e7, hf⟩ := bd1_e hf
    refine g_zald (pc := 16) dd_Q_back_0.2.2.2.2.2.2.2.2.2.2.1 e7 ?_
    refine g_ifne (pc := 17) 23 dd_Q_back_0.2.2.2.2.2.2.2.2.2.2.2.1 (by decide) (fun c22 => ?_) (fun c22 => ?_)
    · replace hf := (if_neg c22).symm.trans hf
      refine g_aload_n (pc := 23) 0 dd_Q_back_0.2.2.2.2.2.2.2.2.2.2.2.2.2.2.1 rfl rfl ?_
      obtain ⟨x8, e9, hf⟩ := bd1_e hf
      refine g_get (pc := 24) (ci := 0) (kk := 1) dd_Q_back_0.2.2.2.2.2.2.2.2.2.2.2.2.2.2.2.1 rfl in_Q (by decide) wd_297 (gR_spec e9) ?_
      refine g_aload_n (pc := 27) 0 dd_Q_back_0.2.2.2.2.2.2.2.2.2.2.2.2.2.2.2.2.1 rfl rfl ?_
      obtain ⟨x10, e11, hf⟩ := bd1_e hf
      refine g_get (pc := 28) (ci := 0) (kk := 3) dd_Q_back_0.2.2.2.2.2.2.2.2.2.2.2.2.2.2.2.2.2.1 rfl in_Q (by decide) wd_299 (gR_spec e11) ?_
      refine g_iload_n (pc := 31) 1 dd_Q_back_0.2.2.2.2.2.2.2.2.2.2.2.2.2.2.2.2.2.2.1 rfl rfl ?_
      obtain ⟨x12, e13, hf⟩ := bd1_e hf
      refine g_aald (pc := 32) "QuotaLaws$Realm" dd_Q_back_0.2.2.2.2.2.2.2.2.2.2.2.2.2.2.2.2.2.2.2.1 (fun _ => rfl) e13 ?_
      obtain ⟨u15, e14, hf⟩ := bd1_e hf
      obtain ⟨h16, e17, hf⟩ := bd1_e hf
      refine g_callV (pc := 33) (ci := 4) [.ref x12] (site_of si_Realm_copyFrom (by decide) (by decide)) wd_495 wd_496 wd_497 dd_Q_back_0.2.2.2.2.2.2.2.2.2.2.2.2.2.2.2.2.2.2.2.2.1 rfl e14 (Nat.le_of_ble_eq_true rfl) (fun z => absurd z si_na_Realm_copyFrom) (fun z => absurd z si_na_Realm_copyFrom) (fun z => absurd z si_na_Realm_copyFrom) (c_Realm_copyFrom e17) rfl ?_
      refine g_st [] rfl ?_
      refine g_aload_n (pc := 36) 0 dd_Q_back_0.2.2.2.2.2.2.2.2.2.2.2.2.2.2.2.2.2.2.2.2.2.1 rfl rfl ?_
      obtain ⟨x18, e19, hf⟩ := bd1_e hf
      refine g_get (pc := 37) (ci := 0) (kk := 1) dd_Q_back_0.2.2.2.2.2.2.2.2.2.2.2.2.2.2.2.2.2.2.2.2.2.2.1 rfl in_Q (by decide) wd_297 (gR_spec e19) ?_
      obtain ⟨x20, e21, hf⟩ := bd1_e hf
      refine g_get (pc := 40) (ci := 4) (kk := 2) dd_Q_back_0.2.2.2.2.2.2.2.2.2.2.2.2.2.2.2.2.2.2.2.2.2.2.2 rfl in_Realm (by decide) wd_104 (gI_spec e21) ?_
      obtain ⟨rfl, rfl⟩ := ret2 hf
      exact g_iret (pc := 43) rfl dd_Q_back_43
    · replace hf := (if_pos c22).symm.trans hf
      refine g_bipush (pc := 20) ((-2) : Int32) dd_Q_back_0.2.2.2.2.2.2.2.2.2.2.2.2.1 (by decide) ?_
      obtain ⟨rfl, rfl⟩ := ret2 hf
      exact g_iret (pc := 22) rfl dd_Q_back_0.2.2.2.2.2.2.2.2.2.2.2.2.2.1
  · replace hf := (if_pos c23).symm.trans hf
    refine g_iconst (pc := 9) ((-1) : Int32) dd_Q_back_0.2.2.2.2.2.1 (by decide) ?_
    obtain ⟨rfl, rfl⟩ := ret2 hf
    exact g_iret (pc := 10) rfl dd_Q_back_0.2.2.2.2.2.2.1
def f_Q_back (a0 : Nat) (a1 : Int32) (h : mH) : Option (Int32 × mH) := f_Q_back_0 a0 a1 h
theorem c_Q_back {sc : Nat × (Nat → Int32)} {a0 : Nat} {a1 : Int32} {h : mH} {r : Int32} {h' : mH} (hf : f_Q_back a0 a1 h = some (r, h')) : MM sc y_Q_back prog_1_method_34_code 2 (some .int) 3 82 [.ref a0, .int a1] h (some (.int r)) h' :=
  mm_of_G si_pn_Q (Nat.le_of_ble_eq_true rfl) (t_Q_back_0 _ _ _ _ _ hf)
/-! Sheet renew (II)V -/
set_option maxRecDepth 100000 in
theorem dd_Sheet_renew_0 : (decode prog_6_method_2_code 0 = .ok (.aload_n 0, 1)) ∧ (decode prog_6_method_2_code 1 = .ok (.iload_n 1, 1)) ∧ (decode prog_6_method_2_code 2 = .ok (.putfield 19, 3)) ∧ (decode prog_6_method_2_code 5 = .ok (.aload_n 0, 1)) ∧ (decode prog_6_method_2_code 6 = .ok (.iload_n 2, 1)) ∧ (decode prog_6_method_2_code 7 = .ok (.putfield 9, 3)) ∧ (decode prog_6_method_2_code 10 = .ok (.aload_n 0, 1)) ∧ (decode prog_6_method_2_code 11 = .ok (.getfield 15, 3)) ∧ (decode prog_6_method_2_code 14 = .ok (.iconst 0, 1)) ∧ (decode prog_6_method_2_code 15 = .ok (.invokestatic 22, 3)) ∧ (decode prog_6_method_2_code 18 = .ok (.return_, 1)) := by
  have h : List.drop 0 prog_6_method_2_code.data.toList = 0x2a :: _ := rfl
  refine ⟨zq_k_n 42 h rfl (zq_o_42 _), ?_⟩
  replace h := zq_nx1 (q := 1) h rfl
  refine ⟨zq_k_n 27 h rfl (zq_o_27 _), ?_⟩
  replace h := zq_nx1 (q := 2) h rfl
  refine ⟨zq_k_u2 181 (fun z => .putfield z) 19 h rfl (zq_o_181 _) (by decide +kernel), ?_⟩
  replace h := zq_nx3 (q := 5) h rfl
  refine ⟨zq_k_n 42 h rfl (zq_o_42 _), ?_⟩
  replace h := zq_nx1 (q := 6) h rfl
  refine ⟨zq_k_n 28 h rfl (zq_o_28 _), ?_⟩
  replace h := zq_nx1 (q := 7) h rfl
  refine ⟨zq_k_u2 181 (fun z => .putfield z) 9 h rfl (zq_o_181 _) (by decide +kernel), ?_⟩
  replace h := zq_nx3 (q := 10) h rfl
  refine ⟨zq_k_n 42 h rfl (zq_o_42 _), ?_⟩
  replace h := zq_nx1 (q := 11) h rfl
  refine ⟨zq_k_u2 180 (fun z => .getfield z) 15 h rfl (zq_o_180 _) (by decide +kernel), ?_⟩
  replace h := zq_nx3 (q := 14) h rfl
  refine ⟨zq_k_n 3 h rfl (zq_o_3 _), ?_⟩
  replace h := zq_nx1 (q := 15) h rfl
  refine ⟨zq_k_u2 184 (fun z => .invokestatic z) 22 h rfl (zq_o_184 _) (by decide +kernel), ?_⟩
  replace h := zq_nx3 (q := 18) h rfl
  exact zq_k_n 177 h rfl (zq_o_177 _)
def f_Sheet_renew_0  (a0 : Nat) (a1 : Int32) (a2 : Int32) (h : mH) : Option mH :=
  bd1 (pV h a0 5 1 (.int a1)) fun h1 =>
  bd1 (pV h1 a0 5 0 (.int a2)) fun h3 =>
  bd1 (gR h3 a0 5 2) fun x5 =>
  bd1 (f_Arrays_fillI x5 (0 : Int32) h3) fun h7 =>
  some h7
set_option maxRecDepth 20000 in
theorem t_Sheet_renew_0 {sc : Nat × (Nat → Int32)}  (a0 : Nat) (a1 : Int32) (a2 : Int32) (h : mH) (h' : mH) (hf : f_Sheet_renew_0  a0 a1 a2 h = some h') : G sc y_Sheet_renew prog_6_method_2_code 3 none 1 23 0 [(0, .ref a0), (1, .int a1), (2, .int a2)] [] h none h' := by
  unfold f_Sheet_renew_0 at hf
  refine g_aload_n (pc := 0) 0 dd_Sheet_renew_0.1 rfl rfl ?_
  refine g_iload_n (pc := 1) 1 dd_Sheet_renew_0.2.1 rfl rfl ?_
  obtain ⟨h1, e2, hf⟩ := bd1_e hf
  refine g_put (pc := 2) (ci := 5) (kk := 1) ty_Sheet tyok_Sheet nm_Sheet dd_Sheet_renew_0.2.2.1 rfl in_Sheet (by decide) wd_287 rfl (fun _ => rfl) (fun _ => rfl) (fun _ z => by cases z) e2 ?_
  refine g_aload_n (pc := 5) 0 dd_Sheet_renew_0.2.2.2.1 rfl rfl ?_
  refine g_iload_n (pc := 6) 2 dd_Sheet_renew_0.2.2.2.2.1 rfl rfl ?_
  obtain ⟨h3, e4, hf⟩ := bd1_e hf
  refine g_put (pc := 7) (ci := 5) (kk := 0) ty_Sheet tyok_Sheet nm_Sheet dd_Sheet_renew_0.2.2.2.2.2.1 rfl in_Sheet (by decide) wd_285 rfl (fun _ => rfl) (fun _ => rfl) (fun _ z => by cases z) e4 ?_
  refine g_aload_n (pc := 10) 0 dd_Sheet_renew_0.2.2.2.2.2.2.1 rfl rfl ?_
  obtain ⟨x5, e6, hf⟩ := bd1_e hf
  refine g_get (pc := 11) (ci := 5) (kk := 2) dd_Sheet_renew_0.2.2.2.2.2.2.2.1 rfl in_Sheet (by decide) wd_288 (gR_spec e6) ?_
  refine g_iconst (pc := 14) (0 : Int32) dd_Sheet_renew_0.2.2.2.2.2.2.2.2.1 (by decide) ?_
  obtain ⟨h7, e8, hf⟩ := bd1_e hf
  refine g_callS (pc := 15) [.ref x5, .int (0 : Int32)] (site_of si_Arrays_fillI (by decide) (by decide)) wd_870 wd_355 dd_Sheet_renew_0.2.2.2.2.2.2.2.2.2.1 (Nat.le_of_ble_eq_true rfl) (fun z => absurd z si_na_Arrays_fillI) (fun z => absurd z si_na_Arrays_fillI) (fun z => absurd z si_na_Arrays_fillI) (c_Arrays_fillI e8) rfl ?_
  refine g_st [] rfl ?_
  obtain rfl := ret1 hf
  exact g_vret (pc := 18) rfl dd_Sheet_renew_0.2.2.2.2.2.2.2.2.2.2
def f_Sheet_renew (a0 : Nat) (a1 : Int32) (a2 : Int32) (h : mH) : Option mH := f_Sheet_renew_0 a0 a1 a2 h
theorem c_Sheet_renew {sc : Nat × (Nat → Int32)} {a0 : Nat} {a1 : Int32} {a2 : Int32} {h : mH} {h' : mH} (hf : f_Sheet_renew a0 a1 a2 h = some h') : MM sc y_Sheet_renew prog_6_method_2_code 3 none 1 23 [.ref a0, .int a1, .int a2] h none h' :=
  mm_of_G si_pn_Sheet (Nat.le_of_ble_eq_true rfl) (t_Sheet_renew_0 _ _ _ _ _ hf)
/-! Q sheet (III)I -/
set_option maxRecDepth 100000 in
theorem dd_Q_sheet_0 : (decode prog_1_method_35_code 0 = .ok (.iload_n 1, 1)) ∧ (decode prog_1_method_35_code 1 = .ok (.iconst 0, 1)) ∧ (decode prog_1_method_35_code 2 = .ok (.iconst 3, 1)) ∧ (decode prog_1_method_35_code 3 = .ok (.invokestatic 62, 3)) ∧ (decode prog_1_method_35_code 6 = .ok (.ifCond .eq 18, 3)) ∧ (decode prog_1_method_35_code 9 = .ok (.iload_n 2, 1)) ∧ (decode prog_1_method_35_code 10 = .ok (.iconst 0, 1)) ∧ (decode prog_1_method_35_code 11 = .ok (.iconst 2, 1)) ∧ (decode prog_1_method_35_code 12 = .ok (.invokestatic 62, 3)) ∧ (decode prog_1_method_35_code 15 = .ok (.ifCond .eq 9, 3)) ∧ (decode prog_1_method_35_code 18 = .ok (.iload_n 3, 1)) ∧ (decode prog_1_method_35_code 19 = .ok (.bipush 40, 2)) ∧ (decode prog_1_method_35_code 21 = .ok (.if_icmp .le 5, 3)) ∧ (decode prog_1_method_35_code 24 = .ok (.iconst (-1), 1)) ∧ (decode prog_1_method_35_code 25 = .ok (.ireturn, 1)) ∧ (decode prog_1_method_35_code 26 = .ok (.iload_n 3, 1)) ∧ (decode prog_1_method_35_code 27 = .ok (.ifCond .ge 6, 3)) ∧ (decode prog_1_method_35_code 30 = .ok (.bipush (-14), 2)) ∧ (decode prog_1_method_35_code 32 = .ok (.ireturn, 1)) ∧ (decode prog_1_method_35_code 33 = .ok (.aload_n 0, 1)) ∧ (decode prog_1_method_35_code 34 = .ok (.getfield 36, 3)) ∧ (decode prog_1_method_35_code 37 = .ok (.iload_n 1, 1)) ∧ (decode prog_1_method_35_code 38 = .ok (.aaload, 1)) ∧ (decode prog_1_method_35_code 39 = .ok (.iload_n 2, 1)) := by
  have h : List.drop 0 prog_1_method_35_code.data.toList = 0x1b :: _ := rfl
  refine ⟨zq_k_n 27 h rfl (zq_o_27 _), ?_⟩
  replace h := zq_nx1 (q := 1) h rfl
  refine ⟨zq_k_n 3 h rfl (zq_o_3 _), ?_⟩
  replace h := zq_nx1 (q := 2) h rfl
  refine ⟨zq_k_n 6 h rfl (zq_o_6 _), ?_⟩
  replace h := zq_nx1 (q := 3) h rfl
  refine ⟨zq_k_u2 184 (fun z => .invokestatic z) 62 h rfl (zq_o_184 _) (by decide +kernel), ?_⟩
  replace h := zq_nx3 (q := 6) h rfl
  refine ⟨zq_k_s2 153 (fun z => .ifCond .eq z) 18 h rfl (zq_o_153 _) (by decide +kernel), ?_⟩
  replace h := zq_nx3 (q := 9) h rfl
  refine ⟨zq_k_n 28 h rfl (zq_o_28 _), ?_⟩
  replace h := zq_nx1 (q := 10) h rfl
  refine ⟨zq_k_n 3 h rfl (zq_o_3 _), ?_⟩
  replace h := zq_nx1 (q := 11) h rfl
  refine ⟨zq_k_n 5 h rfl (zq_o_5 _), ?_⟩
  replace h := zq_nx1 (q := 12) h rfl
  refine ⟨zq_k_u2 184 (fun z => .invokestatic z) 62 h rfl (zq_o_184 _) (by decide +kernel), ?_⟩
  replace h := zq_nx3 (q := 15) h rfl
  refine ⟨zq_k_s2 153 (fun z => .ifCond .eq z) 9 h rfl (zq_o_153 _) (by decide +kernel), ?_⟩
  replace h := zq_nx3 (q := 18) h rfl
  refine ⟨zq_k_n 29 h rfl (zq_o_29 _), ?_⟩
  replace h := zq_nx1 (q := 19) h rfl
  refine ⟨zq_k_s1 16 (fun z => .bipush z) 40 h rfl (zq_o_16 _) (by decide +kernel), ?_⟩
  replace h := zq_nx2 (q := 21) h rfl
  refine ⟨zq_k_s2 164 (fun z => .if_icmp .le z) 5 h rfl (zq_o_164 _) (by decide +kernel), ?_⟩
  replace h := zq_nx3 (q := 24) h rfl
  refine ⟨zq_k_n 2 h rfl (zq_o_2 _), ?_⟩
  replace h := zq_nx1 (q := 25) h rfl
  refine ⟨zq_k_n 172 h rfl (zq_o_172 _), ?_⟩
  replace h := zq_nx1 (q := 26) h rfl
  refine ⟨zq_k_n 29 h rfl (zq_o_29 _), ?_⟩
  replace h := zq_nx1 (q := 27) h rfl
  refine ⟨zq_k_s2 156 (fun z => .ifCond .ge z) 6 h rfl (zq_o_156 _) (by decide +kernel), ?_⟩
  replace h := zq_nx3 (q := 30) h rfl
  refine ⟨zq_k_s1 16 (fun z => .bipush z) (-14) h rfl (zq_o_16 _) (by decide +kernel), ?_⟩
  replace h := zq_nx2 (q := 32) h rfl
  refine ⟨zq_k_n 172 h rfl (zq_o_172 _), ?_⟩
  replace h := zq_nx1 (q := 33) h rfl
  refine ⟨zq_k_n 42 h rfl (zq_o_42 _), ?_⟩
  replace h := zq_nx1 (q := 34) h rfl
  refine ⟨zq_k_u2 180 (fun z => .getfield z) 36 h rfl (zq_o_180 _) (by decide +kernel), ?_⟩
  replace h := zq_nx3 (q := 37) h rfl
  refine ⟨zq_k_n 27 h rfl (zq_o_27 _), ?_⟩
  replace h := zq_nx1 (q := 38) h rfl
  refine ⟨zq_k_n 50 h rfl (zq_o_50 _), ?_⟩
  replace h := zq_nx1 (q := 39) h rfl
  exact zq_k_n 28 h rfl (zq_o_28 _)
set_option maxRecDepth 100000 in
theorem dd_Q_sheet_40 : (decode prog_1_method_35_code 40 = .ok (.iload_n 3, 1)) ∧ (decode prog_1_method_35_code 41 = .ok (.invokevirtual 258, 3)) ∧ (decode prog_1_method_35_code 44 = .ok (.iconst 1, 1)) ∧ (decode prog_1_method_35_code 45 = .ok (.ireturn, 1)) := by
  have h : List.drop 40 prog_1_method_35_code.data.toList = 0x1d :: _ := rfl
  refine ⟨zq_k_n 29 h rfl (zq_o_29 _), ?_⟩
  replace h := zq_nx1 (q := 41) h rfl
  refine ⟨zq_k_u2 182 (fun z => .invokevirtual z) 258 h rfl (zq_o_182 _) (by decide +kernel), ?_⟩
  replace h := zq_nx3 (q := 44) h rfl
  refine ⟨zq_k_n 4 h rfl (zq_o_4 _), ?_⟩
  replace h := zq_nx1 (q := 45) h rfl
  exact zq_k_n 172 h rfl (zq_o_172 _)
def f_Q_sheet_24   (h : mH) : Option (Int32 × mH) :=
  some (((-1) : Int32), h)
set_option maxRecDepth 20000 in
theorem t_Q_sheet_24 {sc : Nat × (Nat → Int32)}   (h : mH) (r : Int32) (h' : mH) (hf : f_Q_sheet_24   h = some (r, h')) : G sc y_Q_sheet prog_1_method_35_code 4 (some .int) 2 45 24 [] [] h (some (.int r)) h' := by
  unfold f_Q_sheet_24 at hf
  refine g_iconst (pc := 24) ((-1) : Int32) dd_Q_sheet_0.2.2.2.2.2.2.2.2.2.2.2.2.2.1 (by decide) ?_
  obtain ⟨rfl, rfl⟩ := ret2 hf
  exact g_iret (pc := 25) rfl dd_Q_sheet_0.2.2.2.2.2.2.2.2.2.2.2.2.2.2.1
def f_Q_sheet_0  (a0 : Nat) (a1 : Int32) (a2 : Int32) (a3 : Int32) (h : mH) : Option (Int32 × mH) :=
  bd2 (f_Q_isWithin a1 (0 : Int32) (3 : Int32) h) fun x3 h1 =>
  if x3 = 0 then
    f_Q_sheet_24  h1
  else
    bd2 (f_Q_isWithin a2 (0 : Int32) (2 : Int32) h1) fun x6 h4 =>
    if x6 = 0 then
      f_Q_sheet_24  h4
    else
      if a3 ≤ (40 : Int32) then
        if 0 ≤ a3 then
          bd1 (gR h4 a0 0 5) fun x7 =>
          bd1 (aR h4 5 x7 a1) fun x9 =>
          bd1 (kC h4 x9 5) fun _ =>
          bd1 (f_Sheet_renew x9 a2 a3 h4) fun h13 =>
          some ((1 : Int32), h13)
        else
          some (((-14) : Int32), h4)
      else
        f_Q_sheet_24  h4
set_option maxRecDepth 20000 in
theorem t_Q_sheet_0 {sc : Nat × (Nat → Int32)}  (a0 : Nat) (a1 : Int32) (a2 : Int32) (a3 : Int32) (h : mH) (r : Int32) (h' : mH) (hf : f_Q_sheet_0  a0 a1 a2 a3 h = some (r, h')) : G sc y_Q_sheet prog_1_method_35_code 4 (some .int) 2 45 0 [(0, .ref a0), (1, .int a1), (2, .int a2), (3, .int a3)] [] h (some (.int r)) h' := by
  unfold f_Q_sheet_0 at hf
  refine g_iload_n (pc := 0) 1 dd_Q_sheet_0.1 rfl rfl ?_
  refine g_iconst (pc := 1) (0 : Int32) dd_Q_sheet_0.2.1 (by decide) ?_
  refine g_iconst (pc := 2) (3 : Int32) dd_Q_sheet_0.2.2.1 (by decide) ?_
  obtain ⟨x3, h1, e2, hf⟩ := bd2_e hf
  refine g_callS (pc := 3) [.int a1, .int (0 : Int32), .int (3 : Int32)] (site_of si_Q_isWithin (by decide) (by decide)) wd_331 wd_332 dd_Q_sheet_0.2.2.2.1 (Nat.le_of_ble_eq_true rfl) (fun z => absurd z si_na_Q_isWithin) (fun z => absurd z si_na_Q_isWithin) (fun z => absurd z si_na_Q_isWithin) (c_Q_isWithin e2) rfl ?_
  refine g_st [.int x3] rfl ?_
  refine g_ifeq (pc := 6) 24 dd_Q_sheet_0.2.2.2.2.1 (by decide) (fun c18 => ?_) (fun c18 => ?_)
  · replace hf := (if_pos c18).symm.trans hf
    refine g_lv [] rfl ?_
    exact t_Q_sheet_24  _ _ _  hf
  · replace hf := (if_neg c18).symm.trans hf
    refine g_iload_n (pc := 9) 2 dd_Q_sheet_0.2.2.2.2.2.1 rfl rfl ?_
    refine g_iconst (pc := 10) (0 : Int32) dd_Q_sheet_0.2.2.2.2.2.2.1 (by decide) ?_
    refine g_iconst (pc := 11) (2 : Int32) dd_Q_sheet_0.2.2.2.2.2.2.2.1 (by decide) ?_
    obtain ⟨x6, h4, e5, hf⟩ := bd2_e hf
    refine g_callS (pc := 12) [.int a2, .int (0 : Int32), .int (2 : Int32)] (site_of si_Q_isWithin (by decide) (by decide)) wd_331 wd_332 dd_Q_sheet_0.2.2.2.2.2.2.2.2.1 (Nat.le_of_ble_eq_true rfl) (fun z => absurd z si_na_Q_isWithin) (fun z => absurd z si_na_Q_isWithin) (fun z => absurd z si_na_Q_isWithin) (c_Q_isWithin e5) rfl ?_
    refine g_st [.int x6] rfl ?_
    refine g_ifeq (pc := 15) 24 dd_Q_sheet_0.2.2.2.2.2.2.2.2.2.1 (by decide) (fun c17 => ?_) (fun c17 => ?_)
    · replace hf := (if_pos c17).symm.trans hf
      refine g_lv [] rfl ?_
      exact t_Q_sheet_24  _ _ _  hf
    · replace hf := (if_neg c17).symm.trans hf
      refine g_iload_n (pc := 18) 3 dd_Q_sheet_0.2.2.2.2.2.2.2.2.2.2.1 rfl rfl ?_
      refine g_bipush (pc := 19) (40 : Int32) dd_Q_sheet_0.2.2.2.2.2.2.2.2.2.2.2.1 (by decide) ?_
      refine g_icmple (pc := 21) 26 dd_Q_sheet_0.2.2.2.2.2.2.2.2.2.2.2.2.1 (by decide) (fun c16 => ?_) (fun c16 => ?_)
      · replace hf := (if_pos c16).symm.trans hf
        refine g_iload_n (pc := 26) 3 dd_Q_sheet_0.2.2.2.2.2.2.2.2.2.2.2.2.2.2.2.1 rfl rfl ?_
        refine g_ifge (pc := 27) 33 dd_Q_sheet_0.2.2.2.2.2.2.2.2.2.2.2.2.2.2.2.2.1 (by decide) (fun c15 => ?_) (fun c15 => ?_)
        · replace hf := (if_pos c15).symm.trans hf
          refine g_aload_n (pc := 33) 0 dd_Q_sheet_0.2.2.2.2.2.2.2.2.2.2.2.2.2.2.2.2.2.2.2.1 rfl rfl ?_
          obtain ⟨x7, e8, hf⟩ := bd1_e hf
          refine g_get (pc := 34) (ci := 0) (kk := 5) dd_Q_sheet_0.2.2.2.2.2.2.2.2.2.2.2.2.2.2.2.2.2.2.2.2.1 rfl in_Q (by decide) wd_301 (gR_spec e8) ?_
          refine g_iload_n (pc := 37) 1 dd_Q_sheet_0.2.2.2.2.2.2.2.2.2.2.2.2.2.2.2.2.2.2.2.2.2.1 rfl rfl ?_
          obtain ⟨x9, e10, hf⟩ := bd1_e hf
          refine g_aald (pc := 38) "QuotaLaws$Sheet" dd_Q_sheet_0.2.2.2.2.2.2.2.2.2.2.2.2.2.2.2.2.2.2.2.2.2.2.1 (fun _ => rfl) e10 ?_
          refine g_iload_n (pc := 39) 2 dd_Q_sheet_0.2.2.2.2.2.2.2.2.2.2.2.2.2.2.2.2.2.2.2.2.2.2.2 rfl rfl ?_
          refine g_iload_n (pc := 40) 3 dd_Q_sheet_40.1 rfl rfl ?_
          obtain ⟨u12, e11, hf⟩ := bd1_e hf
          obtain ⟨h13, e14, hf⟩ := bd1_e hf
          refine g_callV (pc := 41) (ci := 5) [.int a2, .int a3] (site_of si_Sheet_renew (by decide) (by decide)) wd_866 wd_867 wd_868 dd_Q_sheet_40.2.1 rfl e11 (Nat.le_of_ble_eq_true rfl) (fun z => absurd z si_na_Sheet_renew) (fun z => absurd z si_na_Sheet_renew) (fun z => absurd z si_na_Sheet_renew) (c_Sheet_renew e14) rfl ?_
          refine g_st [] rfl ?_
          refine g_iconst (pc := 44) (1 : Int32) dd_Q_sheet_40.2.2.1 (by decide) ?_
          obtain ⟨rfl, rfl⟩ := ret2 hf
          exact g_iret (pc := 45) rfl dd_Q_sheet_40.2.2.2
        · replace hf := (if_neg c15).symm.trans hf
          refine g_bipush (pc := 30) ((-14) : Int32) dd_Q_sheet_0.2.2.2.2.2.2.2.2.2.2.2.2.2.2.2.2.2.1 (by decide) ?_
          obtain ⟨rfl, rfl⟩ := ret2 hf
          exact g_iret (pc := 32) rfl dd_Q_sheet_0.2.2.2.2.2.2.2.2.2.2.2.2.2.2.2.2.2.2.1
      · replace hf := (if_neg c16).symm.trans hf
        refine g_lv [] rfl ?_
        exact t_Q_sheet_24  _ _ _  hf
def f_Q_sheet (a0 : Nat) (a1 : Int32) (a2 : Int32) (a3 : Int32) (h : mH) : Option (Int32 × mH) := f_Q_sheet_0 a0 a1 a2 a3 h
theorem c_Q_sheet {sc : Nat × (Nat → Int32)} {a0 : Nat} {a1 : Int32} {a2 : Int32} {a3 : Int32} {h : mH} {r : Int32} {h' : mH} (hf : f_Q_sheet a0 a1 a2 a3 h = some (r, h')) : MM sc y_Q_sheet prog_1_method_35_code 4 (some .int) 2 45 [.ref a0, .int a1, .int a2, .int a3] h (some (.int r)) h' :=
  mm_of_G si_pn_Q (Nat.le_of_ble_eq_true rfl) (t_Q_sheet_0 _ _ _ _ _ _ _ hf)
/-! Sheet faultAt (J)I -/
set_option maxRecDepth 100000 in
theorem dd_Sheet_faultAt_0 : (decode prog_6_method_5_code 0 = .ok (.aload_n 0, 1)) ∧ (decode prog_6_method_5_code 1 = .ok (.getfield 9, 3)) ∧ (decode prog_6_method_5_code 4 = .ok (.bipush (-4), 2)) ∧ (decode prog_6_method_5_code 6 = .ok (.if_icmp .ne 5, 3)) ∧ (decode prog_6_method_5_code 9 = .ok (.iconst 1, 1)) ∧ (decode prog_6_method_5_code 10 = .ok (.ireturn, 1)) ∧ (decode prog_6_method_5_code 11 = .ok (.lload_n 1, 1)) ∧ (decode prog_6_method_5_code 12 = .ok (.lconst 0, 1)) ∧ (decode prog_6_method_5_code 13 = .ok (.lcmp, 1)) ∧ (decode prog_6_method_5_code 14 = .ok (.ifCond .lt 13, 3)) ∧ (decode prog_6_method_5_code 17 = .ok (.lload_n 1, 1)) ∧ (decode prog_6_method_5_code 18 = .ok (.aload_n 0, 1)) ∧ (decode prog_6_method_5_code 19 = .ok (.getfield 9, 3)) ∧ (decode prog_6_method_5_code 22 = .ok (.i2l, 1)) ∧ (decode prog_6_method_5_code 23 = .ok (.lcmp, 1)) ∧ (decode prog_6_method_5_code 24 = .ok (.ifCond .lt 7, 3)) ∧ (decode prog_6_method_5_code 27 = .ok (.iconst 2, 1)) ∧ (decode prog_6_method_5_code 28 = .ok (.goto 4, 3)) ∧ (decode prog_6_method_5_code 31 = .ok (.iconst 0, 1)) ∧ (decode prog_6_method_5_code 32 = .ok (.ireturn, 1)) := by
  have h : List.drop 0 prog_6_method_5_code.data.toList = 0x2a :: _ := rfl
  refine ⟨zq_k_n 42 h rfl (zq_o_42 _), ?_⟩
  replace h := zq_nx1 (q := 1) h rfl
  refine ⟨zq_k_u2 180 (fun z => .getfield z) 9 h rfl (zq_o_180 _) (by decide +kernel), ?_⟩
  replace h := zq_nx3 (q := 4) h rfl
  refine ⟨zq_k_s1 16 (fun z => .bipush z) (-4) h rfl (zq_o_16 _) (by decide +kernel), ?_⟩
  replace h := zq_nx2 (q := 6) h rfl
  refine ⟨zq_k_s2 160 (fun z => .if_icmp .ne z) 5 h rfl (zq_o_160 _) (by decide +kernel), ?_⟩
  replace h := zq_nx3 (q := 9) h rfl
  refine ⟨zq_k_n 4 h rfl (zq_o_4 _), ?_⟩
  replace h := zq_nx1 (q := 10) h rfl
  refine ⟨zq_k_n 172 h rfl (zq_o_172 _), ?_⟩
  replace h := zq_nx1 (q := 11) h rfl
  refine ⟨zq_k_n 31 h rfl (zq_o_31 _), ?_⟩
  replace h := zq_nx1 (q := 12) h rfl
  refine ⟨zq_k_n 9 h rfl (zq_o_9 _), ?_⟩
  replace h := zq_nx1 (q := 13) h rfl
  refine ⟨zq_k_n 148 h rfl (zq_o_148 _), ?_⟩
  replace h := zq_nx1 (q := 14) h rfl
  refine ⟨zq_k_s2 155 (fun z => .ifCond .lt z) 13 h rfl (zq_o_155 _) (by decide +kernel), ?_⟩
  replace h := zq_nx3 (q := 17) h rfl
  refine ⟨zq_k_n 31 h rfl (zq_o_31 _), ?_⟩
  replace h := zq_nx1 (q := 18) h rfl
  refine ⟨zq_k_n 42 h rfl (zq_o_42 _), ?_⟩
  replace h := zq_nx1 (q := 19) h rfl
  refine ⟨zq_k_u2 180 (fun z => .getfield z) 9 h rfl (zq_o_180 _) (by decide +kernel), ?_⟩
  replace h := zq_nx3 (q := 22) h rfl
  refine ⟨zq_k_n 133 h rfl (zq_o_133 _), ?_⟩
  replace h := zq_nx1 (q := 23) h rfl
  refine ⟨zq_k_n 148 h rfl (zq_o_148 _), ?_⟩
  replace h := zq_nx1 (q := 24) h rfl
  refine ⟨zq_k_s2 155 (fun z => .ifCond .lt z) 7 h rfl (zq_o_155 _) (by decide +kernel), ?_⟩
  replace h := zq_nx3 (q := 27) h rfl
  refine ⟨zq_k_n 5 h rfl (zq_o_5 _), ?_⟩
  replace h := zq_nx1 (q := 28) h rfl
  refine ⟨zq_k_s2 167 (fun z => .goto z) 4 h rfl (zq_o_167 _) (by decide +kernel), ?_⟩
  replace h := zq_nx3 (q := 31) h rfl
  refine ⟨zq_k_n 3 h rfl (zq_o_3 _), ?_⟩
  replace h := zq_nx1 (q := 32) h rfl
  exact zq_k_n 172 h rfl (zq_o_172 _)
def f_Sheet_faultAt_27   (h : mH) : Option (Int32 × mH) :=
  some ((2 : Int32), h)
set_option maxRecDepth 20000 in
theorem t_Sheet_faultAt_27 {sc : Nat × (Nat → Int32)}   (h : mH) (r : Int32) (h' : mH) (hf : f_Sheet_faultAt_27   h = some (r, h')) : G sc y_Sheet_faultAt prog_6_method_5_code 3 (some .int) 0 0 27 [] [] h (some (.int r)) h' := by
  unfold f_Sheet_faultAt_27 at hf
  refine g_iconst (pc := 27) (2 : Int32) dd_Sheet_faultAt_0.2.2.2.2.2.2.2.2.2.2.2.2.2.2.2.2.1 (by decide) ?_
  refine g_goto (pc := 28) 32 dd_Sheet_faultAt_0.2.2.2.2.2.2.2.2.2.2.2.2.2.2.2.2.2.1 (by decide) ?_
  obtain ⟨rfl, rfl⟩ := ret2 hf
  exact g_iret (pc := 32) rfl dd_Sheet_faultAt_0.2.2.2.2.2.2.2.2.2.2.2.2.2.2.2.2.2.2.2
def f_Sheet_faultAt_0  (a0 : Nat) (a1 : Int64) (h : mH) : Option (Int32 × mH) :=
  bd1 (gI h a0 5 0) fun x1 =>
  if x1 = ((-4) : Int32) then
    some ((1 : Int32), h)
  else
    if (lg_cmp a1 (0 : Int64)) < 0 then
      f_Sheet_faultAt_27  h
    else
      bd1 (gI h a0 5 0) fun x3 =>
      if (lg_cmp a1 x3.toInt64) < 0 then
        some ((0 : Int32), h)
      else
        f_Sheet_faultAt_27  h
set_option maxRecDepth 20000 in
theorem t_Sheet_faultAt_0 {sc : Nat × (Nat → Int32)}  (a0 : Nat) (a1 : Int64) (h : mH) (r : Int32) (h' : mH) (hf : f_Sheet_faultAt_0  a0 a1 h = some (r, h')) : G sc y_Sheet_faultAt prog_6_method_5_code 3 (some .int) 0 0 0 [(0, .ref a0), (1, .long a1)] [] h (some (.int r)) h' := by
  unfold f_Sheet_faultAt_0 at hf
  refine g_aload_n (pc := 0) 0 dd_Sheet_faultAt_0.1 rfl rfl ?_
  obtain ⟨x1, e2, hf⟩ := bd1_e hf
  refine g_get (pc := 1) (ci := 5) (kk := 0) dd_Sheet_faultAt_0.2.1 rfl in_Sheet (by decide) wd_285 (gI_spec e2) ?_
  refine g_bipush (pc := 4) ((-4) : Int32) dd_Sheet_faultAt_0.2.2.1 (by decide) ?_
  refine g_icmpne (pc := 6) 11 dd_Sheet_faultAt_0.2.2.2.1 (by decide) (fun c7 => ?_) (fun c7 => ?_)
  · replace hf := (if_neg c7).symm.trans hf
    refine g_lload_n (pc := 11) 1 dd_Sheet_faultAt_0.2.2.2.2.2.2.1 rfl rfl ?_
    refine g_lconst (pc := 12) (0 : Int64) dd_Sheet_faultAt_0.2.2.2.2.2.2.2.1 (by decide) ?_
    refine g_lcmp (pc := 13) dd_Sheet_faultAt_0.2.2.2.2.2.2.2.2.1 ?_
    refine g_iflt (pc := 14) 27 dd_Sheet_faultAt_0.2.2.2.2.2.2.2.2.2.1 (by decide) (fun c6 => ?_) (fun c6 => ?_)
    · replace hf := (if_pos c6).symm.trans hf
      refine g_lv [] rfl ?_
      exact t_Sheet_faultAt_27  _ _ _  hf
    · replace hf := (if_neg c6).symm.trans hf
      refine g_lload_n (pc := 17) 1 dd_Sheet_faultAt_0.2.2.2.2.2.2.2.2.2.2.1 rfl rfl ?_
      refine g_aload_n (pc := 18) 0 dd_Sheet_faultAt_0.2.2.2.2.2.2.2.2.2.2.2.1 rfl rfl ?_
      obtain ⟨x3, e4, hf⟩ := bd1_e hf
      refine g_get (pc := 19) (ci := 5) (kk := 0) dd_Sheet_faultAt_0.2.2.2.2.2.2.2.2.2.2.2.2.1 rfl in_Sheet (by decide) wd_285 (gI_spec e4) ?_
      refine g_i2l (pc := 22) dd_Sheet_faultAt_0.2.2.2.2.2.2.2.2.2.2.2.2.2.1 ?_
      refine g_lcmp (pc := 23) dd_Sheet_faultAt_0.2.2.2.2.2.2.2.2.2.2.2.2.2.2.1 ?_
      refine g_iflt (pc := 24) 31 dd_Sheet_faultAt_0.2.2.2.2.2.2.2.2.2.2.2.2.2.2.2.1 (by decide) (fun c5 => ?_) (fun c5 => ?_)
      · replace hf := (if_pos c5).symm.trans hf
        refine g_iconst (pc := 31) (0 : Int32) dd_Sheet_faultAt_0.2.2.2.2.2.2.2.2.2.2.2.2.2.2.2.2.2.2.1 (by decide) ?_
        obtain ⟨rfl, rfl⟩ := ret2 hf
        exact g_iret (pc := 32) rfl dd_Sheet_faultAt_0.2.2.2.2.2.2.2.2.2.2.2.2.2.2.2.2.2.2.2
      · replace hf := (if_neg c5).symm.trans hf
        refine g_lv [] rfl ?_
        exact t_Sheet_faultAt_27  _ _ _  hf
  · replace hf := (if_pos c7).symm.trans hf
    refine g_iconst (pc := 9) (1 : Int32) dd_Sheet_faultAt_0.2.2.2.2.1 (by decide) ?_
    obtain ⟨rfl, rfl⟩ := ret2 hf
    exact g_iret (pc := 10) rfl dd_Sheet_faultAt_0.2.2.2.2.2.1
def f_Sheet_faultAt (a0 : Nat) (a1 : Int64) (h : mH) : Option (Int32 × mH) := f_Sheet_faultAt_0 a0 a1 h
theorem c_Sheet_faultAt {sc : Nat × (Nat → Int32)} {a0 : Nat} {a1 : Int64} {h : mH} {r : Int32} {h' : mH} (hf : f_Sheet_faultAt a0 a1 h = some (r, h')) : MM sc y_Sheet_faultAt prog_6_method_5_code 3 (some .int) 0 0 [.ref a0, .long a1] h (some (.int r)) h' :=
  mm_of_G si_pn_Sheet (Nat.le_of_ble_eq_true rfl) (t_Sheet_faultAt_0 _ _ _ _ _ hf)
/-! Sheet put (II)V -/
set_option maxRecDepth 100000 in
theorem dd_Sheet_put_0 : (decode prog_6_method_3_code 0 = .ok (.aload_n 0, 1)) ∧ (decode prog_6_method_3_code 1 = .ok (.getfield 15, 3)) ∧ (decode prog_6_method_3_code 4 = .ok (.iload_n 1, 1)) ∧ (decode prog_6_method_3_code 5 = .ok (.aload_n 0, 1)) ∧ (decode prog_6_method_3_code 6 = .ok (.getfield 19, 3)) ∧ (decode prog_6_method_3_code 9 = .ok (.ifCond .ne 8, 3)) ∧ (decode prog_6_method_3_code 12 = .ok (.iload_n 2, 1)) ∧ (decode prog_6_method_3_code 13 = .ok (.i2b, 1)) ∧ (decode prog_6_method_3_code 14 = .ok (.goto 17, 3)) ∧ (decode prog_6_method_3_code 17 = .ok (.aload_n 0, 1)) ∧ (decode prog_6_method_3_code 18 = .ok (.getfield 19, 3)) ∧ (decode prog_6_method_3_code 21 = .ok (.iconst 1, 1)) ∧ (decode prog_6_method_3_code 22 = .ok (.if_icmp .ne 8, 3)) ∧ (decode prog_6_method_3_code 25 = .ok (.iload_n 2, 1)) ∧ (decode prog_6_method_3_code 26 = .ok (.i2s, 1)) ∧ (decode prog_6_method_3_code 27 = .ok (.goto 4, 3)) ∧ (decode prog_6_method_3_code 30 = .ok (.iload_n 2, 1)) ∧ (decode prog_6_method_3_code 31 = .ok (.iastore, 1)) ∧ (decode prog_6_method_3_code 32 = .ok (.return_, 1)) := by
  have h : List.drop 0 prog_6_method_3_code.data.toList = 0x2a :: _ := rfl
  refine ⟨zq_k_n 42 h rfl (zq_o_42 _), ?_⟩
  replace h := zq_nx1 (q := 1) h rfl
  refine ⟨zq_k_u2 180 (fun z => .getfield z) 15 h rfl (zq_o_180 _) (by decide +kernel), ?_⟩
  replace h := zq_nx3 (q := 4) h rfl
  refine ⟨zq_k_n 27 h rfl (zq_o_27 _), ?_⟩
  replace h := zq_nx1 (q := 5) h rfl
  refine ⟨zq_k_n 42 h rfl (zq_o_42 _), ?_⟩
  replace h := zq_nx1 (q := 6) h rfl
  refine ⟨zq_k_u2 180 (fun z => .getfield z) 19 h rfl (zq_o_180 _) (by decide +kernel), ?_⟩
  replace h := zq_nx3 (q := 9) h rfl
  refine ⟨zq_k_s2 154 (fun z => .ifCond .ne z) 8 h rfl (zq_o_154 _) (by decide +kernel), ?_⟩
  replace h := zq_nx3 (q := 12) h rfl
  refine ⟨zq_k_n 28 h rfl (zq_o_28 _), ?_⟩
  replace h := zq_nx1 (q := 13) h rfl
  refine ⟨zq_k_n 145 h rfl (zq_o_145 _), ?_⟩
  replace h := zq_nx1 (q := 14) h rfl
  refine ⟨zq_k_s2 167 (fun z => .goto z) 17 h rfl (zq_o_167 _) (by decide +kernel), ?_⟩
  replace h := zq_nx3 (q := 17) h rfl
  refine ⟨zq_k_n 42 h rfl (zq_o_42 _), ?_⟩
  replace h := zq_nx1 (q := 18) h rfl
  refine ⟨zq_k_u2 180 (fun z => .getfield z) 19 h rfl (zq_o_180 _) (by decide +kernel), ?_⟩
  replace h := zq_nx3 (q := 21) h rfl
  refine ⟨zq_k_n 4 h rfl (zq_o_4 _), ?_⟩
  replace h := zq_nx1 (q := 22) h rfl
  refine ⟨zq_k_s2 160 (fun z => .if_icmp .ne z) 8 h rfl (zq_o_160 _) (by decide +kernel), ?_⟩
  replace h := zq_nx3 (q := 25) h rfl
  refine ⟨zq_k_n 28 h rfl (zq_o_28 _), ?_⟩
  replace h := zq_nx1 (q := 26) h rfl
  refine ⟨zq_k_n 147 h rfl (zq_o_147 _), ?_⟩
  replace h := zq_nx1 (q := 27) h rfl
  refine ⟨zq_k_s2 167 (fun z => .goto z) 4 h rfl (zq_o_167 _) (by decide +kernel), ?_⟩
  replace h := zq_nx3 (q := 30) h rfl
  refine ⟨zq_k_n 28 h rfl (zq_o_28 _), ?_⟩
  replace h := zq_nx1 (q := 31) h rfl
  refine ⟨zq_k_n 79 h rfl (zq_o_79 _), ?_⟩
  replace h := zq_nx1 (q := 32) h rfl
  exact zq_k_n 177 h rfl (zq_o_177 _)
def f_Sheet_put_31  (s0 : Nat) (s1 : Int32) (s2 : Int32) (h : mH) : Option mH :=
  bd1 (sI h 0 s0 s1 s2) fun h9 =>
  some h9
set_option maxRecDepth 20000 in
theorem t_Sheet_put_31 {sc : Nat × (Nat → Int32)}  (s0 : Nat) (s1 : Int32) (s2 : Int32) (h : mH) (h' : mH) (hf : f_Sheet_put_31  s0 s1 s2 h = some h') : G sc y_Sheet_put prog_6_method_3_code 3 none 0 0 31 [] [.int s2, .int s1, .ref s0] h none h' := by
  unfold f_Sheet_put_31 at hf
  obtain ⟨h9, e10, hf⟩ := bd1_e hf
  refine g_iast (pc := 31) dd_Sheet_put_0.2.2.2.2.2.2.2.2.2.2.2.2.2.2.2.2.2.1 e10 ?_
  obtain rfl := ret1 hf
  exact g_vret (pc := 32) rfl dd_Sheet_put_0.2.2.2.2.2.2.2.2.2.2.2.2.2.2.2.2.2.2
def f_Sheet_put_0  (a0 : Nat) (a1 : Int32) (a2 : Int32) (h : mH) : Option mH :=
  bd1 (gR h a0 5 2) fun x1 =>
  bd1 (gI h a0 5 1) fun x3 =>
  if x3 = 0 then
    f_Sheet_put_31  x1 a1 a2.toInt8.toInt32 h
  else
    bd1 (gI h a0 5 1) fun x5 =>
    if x5 = (1 : Int32) then
      f_Sheet_put_31  x1 a1 a2.toInt16.toInt32 h
    else
      f_Sheet_put_31  x1 a1 a2 h
set_option maxRecDepth 20000 in
theorem t_Sheet_put_0 {sc : Nat × (Nat → Int32)}  (a0 : Nat) (a1 : Int32) (a2 : Int32) (h : mH) (h' : mH) (hf : f_Sheet_put_0  a0 a1 a2 h = some h') : G sc y_Sheet_put prog_6_method_3_code 3 none 0 0 0 [(0, .ref a0), (1, .int a1), (2, .int a2)] [] h none h' := by
  unfold f_Sheet_put_0 at hf
  refine g_aload_n (pc := 0) 0 dd_Sheet_put_0.1 rfl rfl ?_
  obtain ⟨x1, e2, hf⟩ := bd1_e hf
  refine g_get (pc := 1) (ci := 5) (kk := 2) dd_Sheet_put_0.2.1 rfl in_Sheet (by decide) wd_288 (gR_spec e2) ?_
  refine g_iload_n (pc := 4) 1 dd_Sheet_put_0.2.2.1 rfl rfl ?_
  refine g_aload_n (pc := 5) 0 dd_Sheet_put_0.2.2.2.1 rfl rfl ?_
  obtain ⟨x3, e4, hf⟩ := bd1_e hf
  refine g_get (pc := 6) (ci := 5) (kk := 1) dd_Sheet_put_0.2.2.2.2.1 rfl in_Sheet (by decide) wd_287 (gI_spec e4) ?_
  refine g_ifne (pc := 9) 17 dd_Sheet_put_0.2.2.2.2.2.1 (by decide) (fun c8 => ?_) (fun c8 => ?_)
  · replace hf := (if_neg c8).symm.trans hf
    refine g_aload_n (pc := 17) 0 dd_Sheet_put_0.2.2.2.2.2.2.2.2.2.1 rfl rfl ?_
    obtain ⟨x5, e6, hf⟩ := bd1_e hf
    refine g_get (pc := 18) (ci := 5) (kk := 1) dd_Sheet_put_0.2.2.2.2.2.2.2.2.2.2.1 rfl in_Sheet (by decide) wd_287 (gI_spec e6) ?_
    refine g_iconst (pc := 21) (1 : Int32) dd_Sheet_put_0.2.2.2.2.2.2.2.2.2.2.2.1 (by decide) ?_
    refine g_icmpne (pc := 22) 30 dd_Sheet_put_0.2.2.2.2.2.2.2.2.2.2.2.2.1 (by decide) (fun c7 => ?_) (fun c7 => ?_)
    · replace hf := (if_neg c7).symm.trans hf
      refine g_iload_n (pc := 30) 2 dd_Sheet_put_0.2.2.2.2.2.2.2.2.2.2.2.2.2.2.2.2.1 rfl rfl ?_
      refine g_lv [] rfl ?_
      exact t_Sheet_put_31  _ _ _ _ _  hf
    · replace hf := (if_pos c7).symm.trans hf
      refine g_iload_n (pc := 25) 2 dd_Sheet_put_0.2.2.2.2.2.2.2.2.2.2.2.2.2.1 rfl rfl ?_
      refine g_i2s (pc := 26) dd_Sheet_put_0.2.2.2.2.2.2.2.2.2.2.2.2.2.2.1 ?_
      refine g_goto (pc := 27) 31 dd_Sheet_put_0.2.2.2.2.2.2.2.2.2.2.2.2.2.2.2.1 (by decide) ?_
      refine g_lv [] rfl ?_
      exact t_Sheet_put_31  _ _ _ _ _  hf
  · replace hf := (if_pos c8).symm.trans hf
    refine g_iload_n (pc := 12) 2 dd_Sheet_put_0.2.2.2.2.2.2.1 rfl rfl ?_
    refine g_i2b (pc := 13) dd_Sheet_put_0.2.2.2.2.2.2.2.1 ?_
    refine g_goto (pc := 14) 31 dd_Sheet_put_0.2.2.2.2.2.2.2.2.1 (by decide) ?_
    refine g_lv [] rfl ?_
    exact t_Sheet_put_31  _ _ _ _ _  hf
def f_Sheet_put (a0 : Nat) (a1 : Int32) (a2 : Int32) (h : mH) : Option mH := f_Sheet_put_0 a0 a1 a2 h
theorem c_Sheet_put {sc : Nat × (Nat → Int32)} {a0 : Nat} {a1 : Int32} {a2 : Int32} {h : mH} {h' : mH} (hf : f_Sheet_put a0 a1 a2 h = some h') : MM sc y_Sheet_put prog_6_method_3_code 3 none 0 0 [.ref a0, .int a1, .int a2] h none h' :=
  mm_of_G si_pn_Sheet (Nat.le_of_ble_eq_true rfl) (t_Sheet_put_0 _ _ _ _ _ hf)
/-! Q lay (III)I -/
set_option maxRecDepth 100000 in
theorem dd_Q_lay_0 : (decode prog_1_method_36_code 0 = .ok (.iload_n 1, 1)) ∧ (decode prog_1_method_36_code 1 = .ok (.iconst 0, 1)) ∧ (decode prog_1_method_36_code 2 = .ok (.iconst 3, 1)) ∧ (decode prog_1_method_36_code 3 = .ok (.invokestatic 62, 3)) ∧ (decode prog_1_method_36_code 6 = .ok (.ifCond .ne 5, 3)) ∧ (decode prog_1_method_36_code 9 = .ok (.iconst (-1), 1)) ∧ (decode prog_1_method_36_code 10 = .ok (.ireturn, 1)) ∧ (decode prog_1_method_36_code 11 = .ok (.aload_n 0, 1)) ∧ (decode prog_1_method_36_code 12 = .ok (.getfield 36, 3)) ∧ (decode prog_1_method_36_code 15 = .ok (.iload_n 1, 1)) ∧ (decode prog_1_method_36_code 16 = .ok (.aaload, 1)) ∧ (decode prog_1_method_36_code 17 = .ok (.iload_n 2, 1)) ∧ (decode prog_1_method_36_code 18 = .ok (.i2l, 1)) ∧ (decode prog_1_method_36_code 19 = .ok (.invokevirtual 261, 3)) ∧ (decode prog_1_method_36_code 22 = .ok (.istore 4, 2)) ∧ (decode prog_1_method_36_code 24 = .ok (.iload 4, 2)) ∧ (decode prog_1_method_36_code 26 = .ok (.ifCond .eq 9, 3)) ∧ (decode prog_1_method_36_code 29 = .ok (.bipush (-10), 2)) ∧ (decode prog_1_method_36_code 31 = .ok (.iload 4, 2)) ∧ (decode prog_1_method_36_code 33 = .ok (.isub, 1)) ∧ (decode prog_1_method_36_code 34 = .ok (.ireturn, 1)) ∧ (decode prog_1_method_36_code 35 = .ok (.aload_n 0, 1)) ∧ (decode prog_1_method_36_code 36 = .ok (.getfield 36, 3)) ∧ (decode prog_1_method_36_code 39 = .ok (.iload_n 1, 1)) := by
  have h : List.drop 0 prog_1_method_36_code.data.toList = 0x1b :: _ := rfl
  refine ⟨zq_k_n 27 h rfl (zq_o_27 _), ?_⟩
  replace h := zq_nx1 (q := 1) h rfl
  refine ⟨zq_k_n 3 h rfl (zq_o_3 _), ?_⟩
  replace h := zq_nx1 (q := 2) h rfl
  refine ⟨zq_k_n 6 h rfl (zq_o_6 _), ?_⟩
  replace h := zq_nx1 (q := 3) h rfl
  refine ⟨zq_k_u2 184 (fun z => .invokestatic z) 62 h rfl (zq_o_184 _) (by decide +kernel), ?_⟩
  replace h := zq_nx3 (q := 6) h rfl
  refine ⟨zq_k_s2 154 (fun z => .ifCond .ne z) 5 h rfl (zq_o_154 _) (by decide +kernel), ?_⟩
  replace h := zq_nx3 (q := 9) h rfl
  refine ⟨zq_k_n 2 h rfl (zq_o_2 _), ?_⟩
  replace h := zq_nx1 (q := 10) h rfl
  refine ⟨zq_k_n 172 h rfl (zq_o_172 _), ?_⟩
  replace h := zq_nx1 (q := 11) h rfl
  refine ⟨zq_k_n 42 h rfl (zq_o_42 _), ?_⟩
  replace h := zq_nx1 (q := 12) h rfl
  refine ⟨zq_k_u2 180 (fun z => .getfield z) 36 h rfl (zq_o_180 _) (by decide +kernel), ?_⟩
  replace h := zq_nx3 (q := 15) h rfl
  refine ⟨zq_k_n 27 h rfl (zq_o_27 _), ?_⟩
  replace h := zq_nx1 (q := 16) h rfl
  refine ⟨zq_k_n 50 h rfl (zq_o_50 _), ?_⟩
  replace h := zq_nx1 (q := 17) h rfl
  refine ⟨zq_k_n 28 h rfl (zq_o_28 _), ?_⟩
  replace h := zq_nx1 (q := 18) h rfl
  refine ⟨zq_k_n 133 h rfl (zq_o_133 _), ?_⟩
  replace h := zq_nx1 (q := 19) h rfl
  refine ⟨zq_k_u2 182 (fun z => .invokevirtual z) 261 h rfl (zq_o_182 _) (by decide +kernel), ?_⟩
  replace h := zq_nx3 (q := 22) h rfl
  refine ⟨zq_k_u1 54 (fun z => .istore z) 4 h rfl (zq_o_54 _) (by decide +kernel), ?_⟩
  replace h := zq_nx2 (q := 24) h rfl
  refine ⟨zq_k_u1 21 (fun z => .iload z) 4 h rfl (zq_o_21 _) (by decide +kernel), ?_⟩
  replace h := zq_nx2 (q := 26) h rfl
  refine ⟨zq_k_s2 153 (fun z => .ifCond .eq z) 9 h rfl (zq_o_153 _) (by decide +kernel), ?_⟩
  replace h := zq_nx3 (q := 29) h rfl
  refine ⟨zq_k_s1 16 (fun z => .bipush z) (-10) h rfl (zq_o_16 _) (by decide +kernel), ?_⟩
  replace h := zq_nx2 (q := 31) h rfl
  refine ⟨zq_k_u1 21 (fun z => .iload z) 4 h rfl (zq_o_21 _) (by decide +kernel), ?_⟩
  replace h := zq_nx2 (q := 33) h rfl
  refine ⟨zq_k_n 100 h rfl (zq_o_100 _), ?_⟩
  replace h := zq_nx1 (q := 34) h rfl
  refine ⟨zq_k_n 172 h rfl (zq_o_172 _), ?_⟩
  replace h := zq_nx1 (q := 35) h rfl
  refine ⟨zq_k_n 42 h rfl (zq_o_42 _), ?_⟩
  replace h := zq_nx1 (q := 36) h rfl
  refine ⟨zq_k_u2 180 (fun z => .getfield z) 36 h rfl (zq_o_180 _) (by decide +kernel), ?_⟩
  replace h := zq_nx3 (q := 39) h rfl
  exact zq_k_n 27 h rfl (zq_o_27 _)
set_option maxRecDepth 100000 in
theorem dd_Q_lay_40 : (decode prog_1_method_36_code 40 = .ok (.aaload, 1)) ∧ (decode prog_1_method_36_code 41 = .ok (.iload_n 2, 1)) ∧ (decode prog_1_method_36_code 42 = .ok (.iload_n 3, 1)) ∧ (decode prog_1_method_36_code 43 = .ok (.invokevirtual 265, 3)) ∧ (decode prog_1_method_36_code 46 = .ok (.iconst 1, 1)) ∧ (decode prog_1_method_36_code 47 = .ok (.ireturn, 1)) := by
  have h : List.drop 40 prog_1_method_36_code.data.toList = 0x32 :: _ := rfl
  refine ⟨zq_k_n 50 h rfl (zq_o_50 _), ?_⟩
  replace h := zq_nx1 (q := 41) h rfl
  refine ⟨zq_k_n 28 h rfl (zq_o_28 _), ?_⟩
  replace h := zq_nx1 (q := 42) h rfl
  refine ⟨zq_k_n 29 h rfl (zq_o_29 _), ?_⟩
  replace h := zq_nx1 (q := 43) h rfl
  refine ⟨zq_k_u2 182 (fun z => .invokevirtual z) 265 h rfl (zq_o_182 _) (by decide +kernel), ?_⟩
  replace h := zq_nx3 (q := 46) h rfl
  refine ⟨zq_k_n 4 h rfl (zq_o_4 _), ?_⟩
  replace h := zq_nx1 (q := 47) h rfl
  exact zq_k_n 172 h rfl (zq_o_172 _)
def f_Q_lay_0  (a0 : Nat) (a1 : Int32) (a2 : Int32) (a3 : Int32) (h : mH) : Option (Int32 × mH) :=
  bd2 (f_Q_isWithin a1 (0 : Int32) (3 : Int32) h) fun x3 h1 =>
  if x3 = 0 then
    some (((-1) : Int32), h1)
  else
    bd1 (gR h1 a0 0 5) fun x4 =>
    bd1 (aR h1 5 x4 a1) fun x6 =>
    bd1 (kC h1 x6 5) fun _ =>
    bd2 (f_Sheet_faultAt x6 a2.toInt64 h1) fun x12 h10 =>
    if x12 = 0 then
      bd1 (gR h10 a0 0 5) fun x13 =>
      bd1 (aR h10 5 x13 a1) fun x15 =>
      bd1 (kC h10 x15 5) fun _ =>
      bd1 (f_Sheet_put x15 a2 a3 h10) fun h19 =>
      some ((1 : Int32), h19)
    else
      some (((-10) : Int32) - x12, h10)
set_option maxRecDepth 20000 in
theorem t_Q_lay_0 {sc : Nat × (Nat → Int32)}  (a0 : Nat) (a1 : Int32) (a2 : Int32) (a3 : Int32) (h : mH) (r : Int32) (h' : mH) (hf : f_Q_lay_0  a0 a1 a2 a3 h = some (r, h')) : G sc y_Q_lay prog_1_method_36_code 5 (some .int) 1 22 0 [(0, .ref a0), (1, .int a1), (2, .int a2), (3, .int a3)] [] h (some (.int r)) h' := by
  unfold f_Q_lay_0 at hf
  refine g_iload_n (pc := 0) 1 dd_Q_lay_0.1 rfl rfl ?_
  refine g_iconst (pc := 1) (0 : Int32) dd_Q_lay_0.2.1 (by decide) ?_
  refine g_iconst (pc := 2) (3 : Int32) dd_Q_lay_0.2.2.1 (by decide) ?_
  obtain ⟨x3, h1, e2, hf⟩ := bd2_e hf
  refine g_callS (pc := 3) [.int a1, .int (0 : Int32), .int (3 : Int32)] (site_of si_Q_isWithin (by decide) (by decide)) wd_331 wd_332 dd_Q_lay_0.2.2.2.1 (Nat.le_of_ble_eq_true rfl) (fun z => absurd z si_na_Q_isWithin) (fun z => absurd z si_na_Q_isWithin) (fun z => absurd z si_na_Q_isWithin) (c_Q_isWithin e2) rfl ?_
  refine g_st [.int x3] rfl ?_
  refine g_ifne (pc := 6) 11 dd_Q_lay_0.2.2.2.2.1 (by decide) (fun c22 => ?_) (fun c22 => ?_)
  · replace hf := (if_neg c22).symm.trans hf
    refine g_aload_n (pc := 11) 0 dd_Q_lay_0.2.2.2.2.2.2.2.1 rfl rfl ?_
    obtain ⟨x4, e5, hf⟩ := bd1_e hf
    refine g_get (pc := 12) (ci := 0) (kk := 5) dd_Q_lay_0.2.2.2.2.2.2.2.2.1 rfl in_Q (by decide) wd_301 (gR_spec e5) ?_
    refine g_iload_n (pc := 15) 1 dd_Q_lay_0.2.2.2.2.2.2.2.2.2.1 rfl rfl ?_
    obtain ⟨x6, e7, hf⟩ := bd1_e hf
    refine g_aald (pc := 16) "QuotaLaws$Sheet" dd_Q_lay_0.2.2.2.2.2.2.2.2.2.2.1 (fun _ => rfl) e7 ?_
    refine g_iload_n (pc := 17) 2 dd_Q_lay_0.2.2.2.2.2.2.2.2.2.2.2.1 rfl rfl ?_
    refine g_i2l (pc := 18) dd_Q_lay_0.2.2.2.2.2.2.2.2.2.2.2.2.1 ?_
    obtain ⟨u9, e8, hf⟩ := bd1_e hf
    obtain ⟨x12, h10, e11, hf⟩ := bd2_e hf
    refine g_callV (pc := 19) (ci := 5) [.long a2.toInt64] (site_of si_Sheet_faultAt (by decide) (by decide)) wd_875 wd_876 wd_877 dd_Q_lay_0.2.2.2.2.2.2.2.2.2.2.2.2.2.1 rfl e8 (Nat.le_of_ble_eq_true rfl) (fun z => absurd z si_na_Sheet_faultAt) (fun z => absurd z si_na_Sheet_faultAt) (fun z => absurd z si_na_Sheet_faultAt) (c_Sheet_faultAt e11) rfl ?_
    refine g_st [.int x12] rfl ?_
    refine g_istore (pc := 22) [(4, .int x12), (0, .ref a0), (1, .int a1), (2, .int a2), (3, .int a3)] dd_Q_lay_0.2.2.2.2.2.2.2.2.2.2.2.2.2.2.1 (Nat.le_of_ble_eq_true rfl) rfl ?_
    refine g_iload (pc := 24) 0 dd_Q_lay_0.2.2.2.2.2.2.2.2.2.2.2.2.2.2.2.1 rfl ?_
    refine g_ifeq (pc := 26) 35 dd_Q_lay_0.2.2.2.2.2.2.2.2.2.2.2.2.2.2.2.2.1 (by decide) (fun c21 => ?_) (fun c21 => ?_)
    · replace hf := (if_pos c21).symm.trans hf
      refine g_aload_n (pc := 35) 1 dd_Q_lay_0.2.2.2.2.2.2.2.2.2.2.2.2.2.2.2.2.2.2.2.2.2.1 rfl rfl ?_
      obtain ⟨x13, e14, hf⟩ := bd1_e hf
      refine g_get (pc := 36) (ci := 0) (kk := 5) dd_Q_lay_0.2.2.2.2.2.2.2.2.2.2.2.2.2.2.2.2.2.2.2.2.2.2.1 rfl in_Q (by decide) wd_301 (gR_spec e14) ?_
      refine g_iload_n (pc := 39) 2 dd_Q_lay_0.2.2.2.2.2.2.2.2.2.2.2.2.2.2.2.2.2.2.2.2.2.2.2 rfl rfl ?_
      obtain ⟨x15, e16, hf⟩ := bd1_e hf
      refine g_aald (pc := 40) "QuotaLaws$Sheet" dd_Q_lay_40.1 (fun _ => rfl) e16 ?_
      refine g_iload_n (pc := 41) 3 dd_Q_lay_40.2.1 rfl rfl ?_
      refine g_iload_n (pc := 42) 4 dd_Q_lay_40.2.2.1 rfl rfl ?_
      obtain ⟨u18, e17, hf⟩ := bd1_e hf
      obtain ⟨h19, e20, hf⟩ := bd1_e hf
      refine g_callV (pc := 43) (ci := 5) [.int a2, .int a3] (site_of si_Sheet_put (by decide) (by decide)) wd_879 wd_880 wd_881 dd_Q_lay_40.2.2.2.1 rfl e17 (Nat.le_of_ble_eq_true rfl) (fun z => absurd z si_na_Sheet_put) (fun z => absurd z si_na_Sheet_put) (fun z => absurd z si_na_Sheet_put) (c_Sheet_put e20) rfl ?_
      refine g_st [] rfl ?_
      refine g_iconst (pc := 46) (1 : Int32) dd_Q_lay_40.2.2.2.2.1 (by decide) ?_
      obtain ⟨rfl, rfl⟩ := ret2 hf
      exact g_iret (pc := 47) rfl dd_Q_lay_40.2.2.2.2.2
    · replace hf := (if_neg c21).symm.trans hf
      refine g_bipush (pc := 29) ((-10) : Int32) dd_Q_lay_0.2.2.2.2.2.2.2.2.2.2.2.2.2.2.2.2.2.1 (by decide) ?_
      refine g_iload (pc := 31) 0 dd_Q_lay_0.2.2.2.2.2.2.2.2.2.2.2.2.2.2.2.2.2.2.1 rfl ?_
      refine g_isub (pc := 33) dd_Q_lay_0.2.2.2.2.2.2.2.2.2.2.2.2.2.2.2.2.2.2.2.1 ?_
      obtain ⟨rfl, rfl⟩ := ret2 hf
      exact g_iret (pc := 34) rfl dd_Q_lay_0.2.2.2.2.2.2.2.2.2.2.2.2.2.2.2.2.2.2.2.2.1
  · replace hf := (if_pos c22).symm.trans hf
    refine g_iconst (pc := 9) ((-1) : Int32) dd_Q_lay_0.2.2.2.2.2.1 (by decide) ?_
    obtain ⟨rfl, rfl⟩ := ret2 hf
    exact g_iret (pc := 10) rfl dd_Q_lay_0.2.2.2.2.2.2.1
def f_Q_lay (a0 : Nat) (a1 : Int32) (a2 : Int32) (a3 : Int32) (h : mH) : Option (Int32 × mH) := f_Q_lay_0 a0 a1 a2 a3 h
theorem c_Q_lay {sc : Nat × (Nat → Int32)} {a0 : Nat} {a1 : Int32} {a2 : Int32} {a3 : Int32} {h : mH} {r : Int32} {h' : mH} (hf : f_Q_lay a0 a1 a2 a3 h = some (r, h')) : MM sc y_Q_lay prog_1_method_36_code 5 (some .int) 1 22 [.ref a0, .int a1, .int a2, .int a3] h (some (.int r)) h' :=
  mm_of_G si_pn_Q (Nat.le_of_ble_eq_true rfl) (t_Q_lay_0 _ _ _ _ _ _ _ hf)
/-! Sheet faultAs (I)I -/
set_option maxRecDepth 100000 in
theorem dd_Sheet_faultAs_0 : (decode prog_6_method_7_code 0 = .ok (.aload_n 0, 1)) ∧ (decode prog_6_method_7_code 1 = .ok (.getfield 9, 3)) ∧ (decode prog_6_method_7_code 4 = .ok (.bipush (-4), 2)) ∧ (decode prog_6_method_7_code 6 = .ok (.if_icmp .eq 11, 3)) ∧ (decode prog_6_method_7_code 9 = .ok (.aload_n 0, 1)) ∧ (decode prog_6_method_7_code 10 = .ok (.getfield 19, 3)) ∧ (decode prog_6_method_7_code 13 = .ok (.iload_n 1, 1)) ∧ (decode prog_6_method_7_code 14 = .ok (.if_icmp .ne 7, 3)) ∧ (decode prog_6_method_7_code 17 = .ok (.iconst 0, 1)) ∧ (decode prog_6_method_7_code 18 = .ok (.goto 4, 3)) ∧ (decode prog_6_method_7_code 21 = .ok (.iconst 3, 1)) ∧ (decode prog_6_method_7_code 22 = .ok (.ireturn, 1)) := by
  have h : List.drop 0 prog_6_method_7_code.data.toList = 0x2a :: _ := rfl
  refine ⟨zq_k_n 42 h rfl (zq_o_42 _), ?_⟩
  replace h := zq_nx1 (q := 1) h rfl
  refine ⟨zq_k_u2 180 (fun z => .getfield z) 9 h rfl (zq_o_180 _) (by decide +kernel), ?_⟩
  replace h := zq_nx3 (q := 4) h rfl
  refine ⟨zq_k_s1 16 (fun z => .bipush z) (-4) h rfl (zq_o_16 _) (by decide +kernel), ?_⟩
  replace h := zq_nx2 (q := 6) h rfl
  refine ⟨zq_k_s2 159 (fun z => .if_icmp .eq z) 11 h rfl (zq_o_159 _) (by decide +kernel), ?_⟩
  replace h := zq_nx3 (q := 9) h rfl
  refine ⟨zq_k_n 42 h rfl (zq_o_42 _), ?_⟩
  replace h := zq_nx1 (q := 10) h rfl
  refine ⟨zq_k_u2 180 (fun z => .getfield z) 19 h rfl (zq_o_180 _) (by decide +kernel), ?_⟩
  replace h := zq_nx3 (q := 13) h rfl
  refine ⟨zq_k_n 27 h rfl (zq_o_27 _), ?_⟩
  replace h := zq_nx1 (q := 14) h rfl
  refine ⟨zq_k_s2 160 (fun z => .if_icmp .ne z) 7 h rfl (zq_o_160 _) (by decide +kernel), ?_⟩
  replace h := zq_nx3 (q := 17) h rfl
  refine ⟨zq_k_n 3 h rfl (zq_o_3 _), ?_⟩
  replace h := zq_nx1 (q := 18) h rfl
  refine ⟨zq_k_s2 167 (fun z => .goto z) 4 h rfl (zq_o_167 _) (by decide +kernel), ?_⟩
  replace h := zq_nx3 (q := 21) h rfl
  refine ⟨zq_k_n 6 h rfl (zq_o_6 _), ?_⟩
  replace h := zq_nx1 (q := 22) h rfl
  exact zq_k_n 172 h rfl (zq_o_172 _)
def f_Sheet_faultAs_17   (h : mH) : Option (Int32 × mH) :=
  some ((0 : Int32), h)
set_option maxRecDepth 20000 in
theorem t_Sheet_faultAs_17 {sc : Nat × (Nat → Int32)}   (h : mH) (r : Int32) (h' : mH) (hf : f_Sheet_faultAs_17   h = some (r, h')) : G sc y_Sheet_faultAs prog_6_method_7_code 2 (some .int) 0 0 17 [] [] h (some (.int r)) h' := by
  unfold f_Sheet_faultAs_17 at hf
  refine g_iconst (pc := 17) (0 : Int32) dd_Sheet_faultAs_0.2.2.2.2.2.2.2.2.1 (by decide) ?_
  refine g_goto (pc := 18) 22 dd_Sheet_faultAs_0.2.2.2.2.2.2.2.2.2.1 (by decide) ?_
  obtain ⟨rfl, rfl⟩ := ret2 hf
  exact g_iret (pc := 22) rfl dd_Sheet_faultAs_0.2.2.2.2.2.2.2.2.2.2.2
def f_Sheet_faultAs_0  (a0 : Nat) (a1 : Int32) (h : mH) : Option (Int32 × mH) :=
  bd1 (gI h a0 5 0) fun x1 =>
  if x1 = ((-4) : Int32) then
    f_Sheet_faultAs_17  h
  else
    bd1 (gI h a0 5 1) fun x3 =>
    if x3 = a1 then
      f_Sheet_faultAs_17  h
    else
      some ((3 : Int32), h)
set_option maxRecDepth 20000 in
theorem t_Sheet_faultAs_0 {sc : Nat × (Nat → Int32)}  (a0 : Nat) (a1 : Int32) (h : mH) (r : Int32) (h' : mH) (hf : f_Sheet_faultAs_0  a0 a1 h = some (r, h')) : G sc y_Sheet_faultAs prog_6_method_7_code 2 (some .int) 0 0 0 [(0, .ref a0), (1, .int a1)] [] h (some (.int r)) h' := by
  unfold f_Sheet_faultAs_0 at hf
  refine g_aload_n (pc := 0) 0 dd_Sheet_faultAs_0.1 rfl rfl ?_
  obtain ⟨x1, e2, hf⟩ := bd1_e hf
  refine g_get (pc := 1) (ci := 5) (kk := 0) dd_Sheet_faultAs_0.2.1 rfl in_Sheet (by decide) wd_285 (gI_spec e2) ?_
  refine g_bipush (pc := 4) ((-4) : Int32) dd_Sheet_faultAs_0.2.2.1 (by decide) ?_
  refine g_icmpeq (pc := 6) 17 dd_Sheet_faultAs_0.2.2.2.1 (by decide) (fun c6 => ?_) (fun c6 => ?_)
  · replace hf := (if_pos c6).symm.trans hf
    refine g_lv [] rfl ?_
    exact t_Sheet_faultAs_17  _ _ _  hf
  · replace hf := (if_neg c6).symm.trans hf
    refine g_aload_n (pc := 9) 0 dd_Sheet_faultAs_0.2.2.2.2.1 rfl rfl ?_
    obtain ⟨x3, e4, hf⟩ := bd1_e hf
    refine g_get (pc := 10) (ci := 5) (kk := 1) dd_Sheet_faultAs_0.2.2.2.2.2.1 rfl in_Sheet (by decide) wd_287 (gI_spec e4) ?_
    refine g_iload_n (pc := 13) 1 dd_Sheet_faultAs_0.2.2.2.2.2.2.1 rfl rfl ?_
    refine g_icmpne (pc := 14) 21 dd_Sheet_faultAs_0.2.2.2.2.2.2.2.1 (by decide) (fun c5 => ?_) (fun c5 => ?_)
    · replace hf := (if_neg c5).symm.trans hf
      refine g_iconst (pc := 21) (3 : Int32) dd_Sheet_faultAs_0.2.2.2.2.2.2.2.2.2.2.1 (by decide) ?_
      obtain ⟨rfl, rfl⟩ := ret2 hf
      exact g_iret (pc := 22) rfl dd_Sheet_faultAs_0.2.2.2.2.2.2.2.2.2.2.2
    · replace hf := (if_pos c5).symm.trans hf
      refine g_lv [] rfl ?_
      exact t_Sheet_faultAs_17  _ _ _  hf
def f_Sheet_faultAs (a0 : Nat) (a1 : Int32) (h : mH) : Option (Int32 × mH) := f_Sheet_faultAs_0 a0 a1 h
theorem c_Sheet_faultAs {sc : Nat × (Nat → Int32)} {a0 : Nat} {a1 : Int32} {h : mH} {r : Int32} {h' : mH} (hf : f_Sheet_faultAs a0 a1 h = some (r, h')) : MM sc y_Sheet_faultAs prog_6_method_7_code 2 (some .int) 0 0 [.ref a0, .int a1] h (some (.int r)) h' :=
  mm_of_G si_pn_Sheet (Nat.le_of_ble_eq_true rfl) (t_Sheet_faultAs_0 _ _ _ _ _ hf)
/-! Sheet faultOfPair (J)I -/
set_option maxRecDepth 100000 in
theorem dd_Sheet_faultOfPair_0 : (decode prog_6_method_6_code 0 = .ok (.aload_n 0, 1)) ∧ (decode prog_6_method_6_code 1 = .ok (.lload_n 1, 1)) ∧ (decode prog_6_method_6_code 2 = .ok (.invokevirtual 28, 3)) ∧ (decode prog_6_method_6_code 5 = .ok (.istore_n 3, 1)) ∧ (decode prog_6_method_6_code 6 = .ok (.iload_n 3, 1)) ∧ (decode prog_6_method_6_code 7 = .ok (.ifCond .eq 7, 3)) ∧ (decode prog_6_method_6_code 10 = .ok (.iload_n 3, 1)) ∧ (decode prog_6_method_6_code 11 = .ok (.goto 10, 3)) ∧ (decode prog_6_method_6_code 14 = .ok (.aload_n 0, 1)) ∧ (decode prog_6_method_6_code 15 = .ok (.lload_n 1, 1)) ∧ (decode prog_6_method_6_code 16 = .ok (.lconst 1, 1)) ∧ (decode prog_6_method_6_code 17 = .ok (.ladd, 1)) ∧ (decode prog_6_method_6_code 18 = .ok (.invokevirtual 28, 3)) ∧ (decode prog_6_method_6_code 21 = .ok (.ireturn, 1)) := by
  have h : List.drop 0 prog_6_method_6_code.data.toList = 0x2a :: _ := rfl
  refine ⟨zq_k_n 42 h rfl (zq_o_42 _), ?_⟩
  replace h := zq_nx1 (q := 1) h rfl
  refine ⟨zq_k_n 31 h rfl (zq_o_31 _), ?_⟩
  replace h := zq_nx1 (q := 2) h rfl
  refine ⟨zq_k_u2 182 (fun z => .invokevirtual z) 28 h rfl (zq_o_182 _) (by decide +kernel), ?_⟩
  replace h := zq_nx3 (q := 5) h rfl
  refine ⟨zq_k_n 62 h rfl (zq_o_62 _), ?_⟩
  replace h := zq_nx1 (q := 6) h rfl
  refine ⟨zq_k_n 29 h rfl (zq_o_29 _), ?_⟩
  replace h := zq_nx1 (q := 7) h rfl
  refine ⟨zq_k_s2 153 (fun z => .ifCond .eq z) 7 h rfl (zq_o_153 _) (by decide +kernel), ?_⟩
  replace h := zq_nx3 (q := 10) h rfl
  refine ⟨zq_k_n 29 h rfl (zq_o_29 _), ?_⟩
  replace h := zq_nx1 (q := 11) h rfl
  refine ⟨zq_k_s2 167 (fun z => .goto z) 10 h rfl (zq_o_167 _) (by decide +kernel), ?_⟩
  replace h := zq_nx3 (q := 14) h rfl
  refine ⟨zq_k_n 42 h rfl (zq_o_42 _), ?_⟩
  replace h := zq_nx1 (q := 15) h rfl
  refine ⟨zq_k_n 31 h rfl (zq_o_31 _), ?_⟩
  replace h := zq_nx1 (q := 16) h rfl
  refine ⟨zq_k_n 10 h rfl (zq_o_10 _), ?_⟩
  replace h := zq_nx1 (q := 17) h rfl
  refine ⟨zq_k_n 97 h rfl (zq_o_97 _), ?_⟩
  replace h := zq_nx1 (q := 18) h rfl
  refine ⟨zq_k_u2 182 (fun z => .invokevirtual z) 28 h rfl (zq_o_182 _) (by decide +kernel), ?_⟩
  replace h := zq_nx3 (q := 21) h rfl
  exact zq_k_n 172 h rfl (zq_o_172 _)
def f_Sheet_faultOfPair_0  (a0 : Nat) (a1 : Int64) (h : mH) : Option (Int32 × mH) :=
  bd1 (kC h a0 5) fun _ =>
  bd2 (f_Sheet_faultAt a0 a1 h) fun x5 h3 =>
  if x5 = 0 then
    bd1 (kC h3 a0 5) fun _ =>
    bd2 (f_Sheet_faultAt a0 (a1 + (1 : Int64)) h3) fun x10 h8 =>
    some (x10, h8)
  else
    some (x5, h3)
set_option maxRecDepth 20000 in
theorem t_Sheet_faultOfPair_0 {sc : Nat × (Nat → Int32)}  (a0 : Nat) (a1 : Int64) (h : mH) (r : Int32) (h' : mH) (hf : f_Sheet_faultOfPair_0  a0 a1 h = some (r, h')) : G sc y_Sheet_faultOfPair prog_6_method_6_code 4 (some .int) 1 22 0 [(0, .ref a0), (1, .long a1)] [] h (some (.int r)) h' := by
  unfold f_Sheet_faultOfPair_0 at hf
  refine g_aload_n (pc := 0) 0 dd_Sheet_faultOfPair_0.1 rfl rfl ?_
  refine g_lload_n (pc := 1) 1 dd_Sheet_faultOfPair_0.2.1 rfl rfl ?_
  obtain ⟨u2, e1, hf⟩ := bd1_e hf
  obtain ⟨x5, h3, e4, hf⟩ := bd2_e hf
  refine g_callV (pc := 2) (ci := 5) [.long a1] (site_of si_Sheet_faultAt (by decide) (by decide)) wd_895 wd_876 wd_877 dd_Sheet_faultOfPair_0.2.2.1 rfl e1 (Nat.le_of_ble_eq_true rfl) (fun z => absurd z si_na_Sheet_faultAt) (fun z => absurd z si_na_Sheet_faultAt) (fun z => absurd z si_na_Sheet_faultAt) (c_Sheet_faultAt e4) rfl ?_
  refine g_st [.int x5] rfl ?_
  refine g_istore_n (pc := 5) [(3, .int x5), (0, .ref a0), (1, .long a1)] dd_Sheet_faultOfPair_0.2.2.2.1 rfl (Nat.le_of_ble_eq_true rfl) rfl ?_
  refine g_iload_n (pc := 6) 0 dd_Sheet_faultOfPair_0.2.2.2.2.1 rfl rfl ?_
  refine g_ifeq (pc := 7) 14 dd_Sheet_faultOfPair_0.2.2.2.2.2.1 (by decide) (fun c11 => ?_) (fun c11 => ?_)
  · replace hf := (if_pos c11).symm.trans hf
    refine g_aload_n (pc := 14) 1 dd_Sheet_faultOfPair_0.2.2.2.2.2.2.2.2.1 rfl rfl ?_
    refine g_lload_n (pc := 15) 2 dd_Sheet_faultOfPair_0.2.2.2.2.2.2.2.2.2.1 rfl rfl ?_
    refine g_lconst (pc := 16) (1 : Int64) dd_Sheet_faultOfPair_0.2.2.2.2.2.2.2.2.2.2.1 (by decide) ?_
    refine g_ladd (pc := 17) dd_Sheet_faultOfPair_0.2.2.2.2.2.2.2.2.2.2.2.1 ?_
    obtain ⟨u7, e6, hf⟩ := bd1_e hf
    obtain ⟨x10, h8, e9, hf⟩ := bd2_e hf
    refine g_callV (pc := 18) (ci := 5) [.long (a1 + (1 : Int64))] (site_of si_Sheet_faultAt (by decide) (by decide)) wd_895 wd_876 wd_877 dd_Sheet_faultOfPair_0.2.2.2.2.2.2.2.2.2.2.2.2.1 rfl e6 (Nat.le_of_ble_eq_true rfl) (fun z => absurd z si_na_Sheet_faultAt) (fun z => absurd z si_na_Sheet_faultAt) (fun z => absurd z si_na_Sheet_faultAt) (c_Sheet_faultAt e9) rfl ?_
    refine g_st [.int x10] rfl ?_
    obtain ⟨rfl, rfl⟩ := ret2 hf
    exact g_iret (pc := 21) rfl dd_Sheet_faultOfPair_0.2.2.2.2.2.2.2.2.2.2.2.2.2
  · replace hf := (if_neg c11).symm.trans hf
    refine g_iload_n (pc := 10) 0 dd_Sheet_faultOfPair_0.2.2.2.2.2.2.1 rfl rfl ?_
    refine g_goto (pc := 11) 21 dd_Sheet_faultOfPair_0.2.2.2.2.2.2.2.1 (by decide) ?_
    obtain ⟨rfl, rfl⟩ := ret2 hf
    exact g_iret (pc := 21) rfl dd_Sheet_faultOfPair_0.2.2.2.2.2.2.2.2.2.2.2.2.2
def f_Sheet_faultOfPair (a0 : Nat) (a1 : Int64) (h : mH) : Option (Int32 × mH) := f_Sheet_faultOfPair_0 a0 a1 h
theorem c_Sheet_faultOfPair {sc : Nat × (Nat → Int32)} {a0 : Nat} {a1 : Int64} {h : mH} {r : Int32} {h' : mH} (hf : f_Sheet_faultOfPair a0 a1 h = some (r, h')) : MM sc y_Sheet_faultOfPair prog_6_method_6_code 4 (some .int) 1 22 [.ref a0, .long a1] h (some (.int r)) h' :=
  mm_of_G si_pn_Sheet (Nat.le_of_ble_eq_true rfl) (t_Sheet_faultOfPair_0 _ _ _ _ _ hf)
/-! Sheet cellAt (J)I -/
set_option maxRecDepth 100000 in
theorem dd_Sheet_cellAt_0 : (decode prog_6_method_4_code 0 = .ok (.aload_n 0, 1)) ∧ (decode prog_6_method_4_code 1 = .ok (.getfield 15, 3)) ∧ (decode prog_6_method_4_code 4 = .ok (.lload_n 1, 1)) ∧ (decode prog_6_method_4_code 5 = .ok (.l2i, 1)) ∧ (decode prog_6_method_4_code 6 = .ok (.iaload, 1)) ∧ (decode prog_6_method_4_code 7 = .ok (.ireturn, 1)) := by
  have h : List.drop 0 prog_6_method_4_code.data.toList = 0x2a :: _ := rfl
  refine ⟨zq_k_n 42 h rfl (zq_o_42 _), ?_⟩
  replace h := zq_nx1 (q := 1) h rfl
  refine ⟨zq_k_u2 180 (fun z => .getfield z) 15 h rfl (zq_o_180 _) (by decide +kernel), ?_⟩
  replace h := zq_nx3 (q := 4) h rfl
  refine ⟨zq_k_n 31 h rfl (zq_o_31 _), ?_⟩
  replace h := zq_nx1 (q := 5) h rfl
  refine ⟨zq_k_n 136 h rfl (zq_o_136 _), ?_⟩
  replace h := zq_nx1 (q := 6) h rfl
  refine ⟨zq_k_n 46 h rfl (zq_o_46 _), ?_⟩
  replace h := zq_nx1 (q := 7) h rfl
  exact zq_k_n 172 h rfl (zq_o_172 _)
def f_Sheet_cellAt_0  (a0 : Nat) (a1 : Int64) (h : mH) : Option (Int32 × mH) :=
  bd1 (gR h a0 5 2) fun x1 =>
  bd1 (aI h 0 x1 a1.toInt32) fun x3 =>
  some (x3, h)
set_option maxRecDepth 20000 in
theorem t_Sheet_cellAt_0 {sc : Nat × (Nat → Int32)}  (a0 : Nat) (a1 : Int64) (h : mH) (r : Int32) (h' : mH) (hf : f_Sheet_cellAt_0  a0 a1 h = some (r, h')) : G sc y_Sheet_cellAt prog_6_method_4_code 3 (some .int) 0 0 0 [(0, .ref a0), (1, .long a1)] [] h (some (.int r)) h' := by
  unfold f_Sheet_cellAt_0 at hf
  refine g_aload_n (pc := 0) 0 dd_Sheet_cellAt_0.1 rfl rfl ?_
  obtain ⟨x1, e2, hf⟩ := bd1_e hf
  refine g_get (pc := 1) (ci := 5) (kk := 2) dd_Sheet_cellAt_0.2.1 rfl in_Sheet (by decide) wd_288 (gR_spec e2) ?_
  refine g_lload_n (pc := 4) 1 dd_Sheet_cellAt_0.2.2.1 rfl rfl ?_
  refine g_l2i (pc := 5) dd_Sheet_cellAt_0.2.2.2.1 ?_
  obtain ⟨x3, e4, hf⟩ := bd1_e hf
  refine g_iald (pc := 6) dd_Sheet_cellAt_0.2.2.2.2.1 e4 ?_
  obtain ⟨rfl, rfl⟩ := ret2 hf
  exact g_iret (pc := 7) rfl dd_Sheet_cellAt_0.2.2.2.2.2
def f_Sheet_cellAt (a0 : Nat) (a1 : Int64) (h : mH) : Option (Int32 × mH) := f_Sheet_cellAt_0 a0 a1 h
theorem c_Sheet_cellAt {sc : Nat × (Nat → Int32)} {a0 : Nat} {a1 : Int64} {h : mH} {r : Int32} {h' : mH} (hf : f_Sheet_cellAt a0 a1 h = some (r, h')) : MM sc y_Sheet_cellAt prog_6_method_4_code 3 (some .int) 0 0 [.ref a0, .long a1] h (some (.int r)) h' :=
  mm_of_G si_pn_Sheet (Nat.le_of_ble_eq_true rfl) (t_Sheet_cellAt_0 _ _ _ _ _ hf)
/-! Q read (IIII)I -/
set_option maxRecDepth 100000 in
theorem dd_Q_read_0 : (decode prog_1_method_37_code 0 = .ok (.iload_n 1, 1)) ∧ (decode prog_1_method_37_code 1 = .ok (.iconst 0, 1)) ∧ (decode prog_1_method_37_code 2 = .ok (.iconst 3, 1)) ∧ (decode prog_1_method_37_code 3 = .ok (.invokestatic 62, 3)) ∧ (decode prog_1_method_37_code 6 = .ok (.ifCond .eq 23, 3)) ∧ (decode prog_1_method_37_code 9 = .ok (.iload_n 2, 1)) ∧ (decode prog_1_method_37_code 10 = .ok (.iconst 0, 1)) ∧ (decode prog_1_method_37_code 11 = .ok (.iconst 2, 1)) ∧ (decode prog_1_method_37_code 12 = .ok (.invokestatic 62, 3)) ∧ (decode prog_1_method_37_code 15 = .ok (.ifCond .eq 14, 3)) ∧ (decode prog_1_method_37_code 18 = .ok (.iload 4, 2)) ∧ (decode prog_1_method_37_code 20 = .ok (.iconst 0, 1)) ∧ (decode prog_1_method_37_code 21 = .ok (.bipush 20, 2)) ∧ (decode prog_1_method_37_code 23 = .ok (.invokestatic 62, 3)) ∧ (decode prog_1_method_37_code 26 = .ok (.ifCond .ne 5, 3)) ∧ (decode prog_1_method_37_code 29 = .ok (.iconst (-1), 1)) ∧ (decode prog_1_method_37_code 30 = .ok (.ireturn, 1)) ∧ (decode prog_1_method_37_code 31 = .ok (.aload_n 0, 1)) ∧ (decode prog_1_method_37_code 32 = .ok (.getfield 36, 3)) ∧ (decode prog_1_method_37_code 35 = .ok (.iload_n 1, 1)) ∧ (decode prog_1_method_37_code 36 = .ok (.aaload, 1)) ∧ (decode prog_1_method_37_code 37 = .ok (.astore 5, 2)) ∧ (decode prog_1_method_37_code 39 = .ok (.aload_n 0, 1)) ∧ (decode prog_1_method_37_code 40 = .ok (.getfield 23, 3)) := by
  have h : List.drop 0 prog_1_method_37_code.data.toList = 0x1b :: _ := rfl
  refine ⟨zq_k_n 27 h rfl (zq_o_27 _), ?_⟩
  replace h := zq_nx1 (q := 1) h rfl
  refine ⟨zq_k_n 3 h rfl (zq_o_3 _), ?_⟩
  replace h := zq_nx1 (q := 2) h rfl
  refine ⟨zq_k_n 6 h rfl (zq_o_6 _), ?_⟩
  replace h := zq_nx1 (q := 3) h rfl
  refine ⟨zq_k_u2 184 (fun z => .invokestatic z) 62 h rfl (zq_o_184 _) (by decide +kernel), ?_⟩
  replace h := zq_nx3 (q := 6) h rfl
  refine ⟨zq_k_s2 153 (fun z => .ifCond .eq z) 23 h rfl (zq_o_153 _) (by decide +kernel), ?_⟩
  replace h := zq_nx3 (q := 9) h rfl
  refine ⟨zq_k_n 28 h rfl (zq_o_28 _), ?_⟩
  replace h := zq_nx1 (q := 10) h rfl
  refine ⟨zq_k_n 3 h rfl (zq_o_3 _), ?_⟩
  replace h := zq_nx1 (q := 11) h rfl
  refine ⟨zq_k_n 5 h rfl (zq_o_5 _), ?_⟩
  replace h := zq_nx1 (q := 12) h rfl
  refine ⟨zq_k_u2 184 (fun z => .invokestatic z) 62 h rfl (zq_o_184 _) (by decide +kernel), ?_⟩
  replace h := zq_nx3 (q := 15) h rfl
  refine ⟨zq_k_s2 153 (fun z => .ifCond .eq z) 14 h rfl (zq_o_153 _) (by decide +kernel), ?_⟩
  replace h := zq_nx3 (q := 18) h rfl
  refine ⟨zq_k_u1 21 (fun z => .iload z) 4 h rfl (zq_o_21 _) (by decide +kernel), ?_⟩
  replace h := zq_nx2 (q := 20) h rfl
  refine ⟨zq_k_n 3 h rfl (zq_o_3 _), ?_⟩
  replace h := zq_nx1 (q := 21) h rfl
  refine ⟨zq_k_s1 16 (fun z => .bipush z) 20 h rfl (zq_o_16 _) (by decide +kernel), ?_⟩
  replace h := zq_nx2 (q := 23) h rfl
  refine ⟨zq_k_u2 184 (fun z => .invokestatic z) 62 h rfl (zq_o_184 _) (by decide +kernel), ?_⟩
  replace h := zq_nx3 (q := 26) h rfl
  refine ⟨zq_k_s2 154 (fun z => .ifCond .ne z) 5 h rfl (zq_o_154 _) (by decide +kernel), ?_⟩
  replace h := zq_nx3 (q := 29) h rfl
  refine ⟨zq_k_n 2 h rfl (zq_o_2 _), ?_⟩
  replace h := zq_nx1 (q := 30) h rfl
  refine ⟨zq_k_n 172 h rfl (zq_o_172 _), ?_⟩
  replace h := zq_nx1 (q := 31) h rfl
  refine ⟨zq_k_n 42 h rfl (zq_o_42 _), ?_⟩
  replace h := zq_nx1 (q := 32) h rfl
  refine ⟨zq_k_u2 180 (fun z => .getfield z) 36 h rfl (zq_o_180 _) (by decide +kernel), ?_⟩
  replace h := zq_nx3 (q := 35) h rfl
  refine ⟨zq_k_n 27 h rfl (zq_o_27 _), ?_⟩
  replace h := zq_nx1 (q := 36) h rfl
  refine ⟨zq_k_n 50 h rfl (zq_o_50 _), ?_⟩
  replace h := zq_nx1 (q := 37) h rfl
  refine ⟨zq_k_u1 58 (fun z => .astore z) 5 h rfl (zq_o_58 _) (by decide +kernel), ?_⟩
  replace h := zq_nx2 (q := 39) h rfl
  refine ⟨zq_k_n 42 h rfl (zq_o_42 _), ?_⟩
  replace h := zq_nx1 (q := 40) h rfl
  exact zq_k_u2 180 (fun z => .getfield z) 23 h rfl (zq_o_180 _) (by decide +kernel)
set_option maxRecDepth 100000 in
theorem dd_Q_read_43 : (decode prog_1_method_37_code 43 = .ok (.aload_n 0, 1)) ∧ (decode prog_1_method_37_code 44 = .ok (.getfield 19, 3)) ∧ (decode prog_1_method_37_code 47 = .ok (.invokevirtual 81, 3)) ∧ (decode prog_1_method_37_code 50 = .ok (.iconst 0, 1)) ∧ (decode prog_1_method_37_code 51 = .ok (.istore 6, 2)) ∧ (decode prog_1_method_37_code 53 = .ok (.aload 5, 2)) ∧ (decode prog_1_method_37_code 55 = .ok (.iload_n 2, 1)) ∧ (decode prog_1_method_37_code 56 = .ok (.invokevirtual 268, 3)) ∧ (decode prog_1_method_37_code 59 = .ok (.istore 7, 2)) ∧ (decode prog_1_method_37_code 61 = .ok (.iconst 0, 1)) ∧ (decode prog_1_method_37_code 62 = .ok (.istore 8, 2)) ∧ (decode prog_1_method_37_code 64 = .ok (.iload 8, 2)) ∧ (decode prog_1_method_37_code 66 = .ok (.iload 4, 2)) ∧ (decode prog_1_method_37_code 68 = .ok (.if_icmp .ge 73, 3)) ∧ (decode prog_1_method_37_code 71 = .ok (.iload 7, 2)) ∧ (decode prog_1_method_37_code 73 = .ok (.ifCond .ne 68, 3)) ∧ (decode prog_1_method_37_code 76 = .ok (.iload_n 3, 1)) ∧ (decode prog_1_method_37_code 77 = .ok (.i2l, 1)) ∧ (decode prog_1_method_37_code 78 = .ok (.iconst 2, 1)) ∧ (decode prog_1_method_37_code 79 = .ok (.iload 8, 2)) ∧ (decode prog_1_method_37_code 81 = .ok (.imul, 1)) ∧ (decode prog_1_method_37_code 82 = .ok (.i2l, 1)) ∧ (decode prog_1_method_37_code 83 = .ok (.ladd, 1)) ∧ (decode prog_1_method_37_code 84 = .ok (.lstore 9, 2)) := by
  have h : List.drop 43 prog_1_method_37_code.data.toList = 0x2a :: _ := rfl
  refine ⟨zq_k_n 42 h rfl (zq_o_42 _), ?_⟩
  replace h := zq_nx1 (q := 44) h rfl
  refine ⟨zq_k_u2 180 (fun z => .getfield z) 19 h rfl (zq_o_180 _) (by decide +kernel), ?_⟩
  replace h := zq_nx3 (q := 47) h rfl
  refine ⟨zq_k_u2 182 (fun z => .invokevirtual z) 81 h rfl (zq_o_182 _) (by decide +kernel), ?_⟩
  replace h := zq_nx3 (q := 50) h rfl
  refine ⟨zq_k_n 3 h rfl (zq_o_3 _), ?_⟩
  replace h := zq_nx1 (q := 51) h rfl
  refine ⟨zq_k_u1 54 (fun z => .istore z) 6 h rfl (zq_o_54 _) (by decide +kernel), ?_⟩
  replace h := zq_nx2 (q := 53) h rfl
  refine ⟨zq_k_u1 25 (fun z => .aload z) 5 h rfl (zq_o_25 _) (by decide +kernel), ?_⟩
  replace h := zq_nx2 (q := 55) h rfl
  refine ⟨zq_k_n 28 h rfl (zq_o_28 _), ?_⟩
  replace h := zq_nx1 (q := 56) h rfl
  refine ⟨zq_k_u2 182 (fun z => .invokevirtual z) 268 h rfl (zq_o_182 _) (by decide +kernel), ?_⟩
  replace h := zq_nx3 (q := 59) h rfl
  refine ⟨zq_k_u1 54 (fun z => .istore z) 7 h rfl (zq_o_54 _) (by decide +kernel), ?_⟩
  replace h := zq_nx2 (q := 61) h rfl
  refine ⟨zq_k_n 3 h rfl (zq_o_3 _), ?_⟩
  replace h := zq_nx1 (q := 62) h rfl
  refine ⟨zq_k_u1 54 (fun z => .istore z) 8 h rfl (zq_o_54 _) (by decide +kernel), ?_⟩
  replace h := zq_nx2 (q := 64) h rfl
  refine ⟨zq_k_u1 21 (fun z => .iload z) 8 h rfl (zq_o_21 _) (by decide +kernel), ?_⟩
  replace h := zq_nx2 (q := 66) h rfl
  refine ⟨zq_k_u1 21 (fun z => .iload z) 4 h rfl (zq_o_21 _) (by decide +kernel), ?_⟩
  replace h := zq_nx2 (q := 68) h rfl
  refine ⟨zq_k_s2 162 (fun z => .if_icmp .ge z) 73 h rfl (zq_o_162 _) (by decide +kernel), ?_⟩
  replace h := zq_nx3 (q := 71) h rfl
  refine ⟨zq_k_u1 21 (fun z => .iload z) 7 h rfl (zq_o_21 _) (by decide +kernel), ?_⟩
  replace h := zq_nx2 (q := 73) h rfl
  refine ⟨zq_k_s2 154 (fun z => .ifCond .ne z) 68 h rfl (zq_o_154 _) (by decide +kernel), ?_⟩
  replace h := zq_nx3 (q := 76) h rfl
  refine ⟨zq_k_n 29 h rfl (zq_o_29 _), ?_⟩
  replace h := zq_nx1 (q := 77) h rfl
  refine ⟨zq_k_n 133 h rfl (zq_o_133 _), ?_⟩
  replace h := zq_nx1 (q := 78) h rfl
  refine ⟨zq_k_n 5 h rfl (zq_o_5 _), ?_⟩
  replace h := zq_nx1 (q := 79) h rfl
  refine ⟨zq_k_u1 21 (fun z => .iload z) 8 h rfl (zq_o_21 _) (by decide +kernel), ?_⟩
  replace h := zq_nx2 (q := 81) h rfl
  refine ⟨zq_k_n 104 h rfl (zq_o_104 _), ?_⟩
  replace h := zq_nx1 (q := 82) h rfl
  refine ⟨zq_k_n 133 h rfl (zq_o_133 _), ?_⟩
  replace h := zq_nx1 (q := 83) h rfl
  refine ⟨zq_k_n 97 h rfl (zq_o_97 _), ?_⟩
  replace h := zq_nx1 (q := 84) h rfl
  exact zq_k_u1 55 (fun z => .lstore z) 9 h rfl (zq_o_55 _) (by decide +kernel)
set_option maxRecDepth 100000 in
theorem dd_Q_read_86 : (decode prog_1_method_37_code 86 = .ok (.aload 5, 2)) ∧ (decode prog_1_method_37_code 88 = .ok (.lload 9, 2)) ∧ (decode prog_1_method_37_code 90 = .ok (.invokevirtual 271, 3)) ∧ (decode prog_1_method_37_code 93 = .ok (.istore 7, 2)) ∧ (decode prog_1_method_37_code 95 = .ok (.iload 7, 2)) ∧ (decode prog_1_method_37_code 97 = .ok (.ifCond .ne 38, 3)) ∧ (decode prog_1_method_37_code 100 = .ok (.aload_n 0, 1)) ∧ (decode prog_1_method_37_code 101 = .ok (.getfield 23, 3)) ∧ (decode prog_1_method_37_code 104 = .ok (.aload 5, 2)) ∧ (decode prog_1_method_37_code 106 = .ok (.lload 9, 2)) ∧ (decode prog_1_method_37_code 108 = .ok (.invokevirtual 274, 3)) ∧ (decode prog_1_method_37_code 111 = .ok (.aload 5, 2)) ∧ (decode prog_1_method_37_code 113 = .ok (.lload 9, 2)) ∧ (decode prog_1_method_37_code 115 = .ok (.lconst 1, 1)) ∧ (decode prog_1_method_37_code 116 = .ok (.ladd, 1)) ∧ (decode prog_1_method_37_code 117 = .ok (.invokevirtual 274, 3)) ∧ (decode prog_1_method_37_code 120 = .ok (.invokevirtual 185, 3)) ∧ (decode prog_1_method_37_code 123 = .ok (.ifCond .ge 9, 3)) ∧ (decode prog_1_method_37_code 126 = .ok (.bipush (-20), 2)) ∧ (decode prog_1_method_37_code 128 = .ok (.iload 8, 2)) ∧ (decode prog_1_method_37_code 130 = .ok (.isub, 1)) ∧ (decode prog_1_method_37_code 131 = .ok (.ireturn, 1)) ∧ (decode prog_1_method_37_code 132 = .ok (.iinc 6 1, 3)) ∧ (decode prog_1_method_37_code 135 = .ok (.iinc 8 1, 3)) := by
  have h : List.drop 86 prog_1_method_37_code.data.toList = 0x19 :: _ := rfl
  refine ⟨zq_k_u1 25 (fun z => .aload z) 5 h rfl (zq_o_25 _) (by decide +kernel), ?_⟩
  replace h := zq_nx2 (q := 88) h rfl
  refine ⟨zq_k_u1 22 (fun z => .lload z) 9 h rfl (zq_o_22 _) (by decide +kernel), ?_⟩
  replace h := zq_nx2 (q := 90) h rfl
  refine ⟨zq_k_u2 182 (fun z => .invokevirtual z) 271 h rfl (zq_o_182 _) (by decide +kernel), ?_⟩
  replace h := zq_nx3 (q := 93) h rfl
  refine ⟨zq_k_u1 54 (fun z => .istore z) 7 h rfl (zq_o_54 _) (by decide +kernel), ?_⟩
  replace h := zq_nx2 (q := 95) h rfl
  refine ⟨zq_k_u1 21 (fun z => .iload z) 7 h rfl (zq_o_21 _) (by decide +kernel), ?_⟩
  replace h := zq_nx2 (q := 97) h rfl
  refine ⟨zq_k_s2 154 (fun z => .ifCond .ne z) 38 h rfl (zq_o_154 _) (by decide +kernel), ?_⟩
  replace h := zq_nx3 (q := 100) h rfl
  refine ⟨zq_k_n 42 h rfl (zq_o_42 _), ?_⟩
  replace h := zq_nx1 (q := 101) h rfl
  refine ⟨zq_k_u2 180 (fun z => .getfield z) 23 h rfl (zq_o_180 _) (by decide +kernel), ?_⟩
  replace h := zq_nx3 (q := 104) h rfl
  refine ⟨zq_k_u1 25 (fun z => .aload z) 5 h rfl (zq_o_25 _) (by decide +kernel), ?_⟩
  replace h := zq_nx2 (q := 106) h rfl
  refine ⟨zq_k_u1 22 (fun z => .lload z) 9 h rfl (zq_o_22 _) (by decide +kernel), ?_⟩
  replace h := zq_nx2 (q := 108) h rfl
  refine ⟨zq_k_u2 182 (fun z => .invokevirtual z) 274 h rfl (zq_o_182 _) (by decide +kernel), ?_⟩
  replace h := zq_nx3 (q := 111) h rfl
  refine ⟨zq_k_u1 25 (fun z => .aload z) 5 h rfl (zq_o_25 _) (by decide +kernel), ?_⟩
  replace h := zq_nx2 (q := 113) h rfl
  refine ⟨zq_k_u1 22 (fun z => .lload z) 9 h rfl (zq_o_22 _) (by decide +kernel), ?_⟩
  replace h := zq_nx2 (q := 115) h rfl
  refine ⟨zq_k_n 10 h rfl (zq_o_10 _), ?_⟩
  replace h := zq_nx1 (q := 116) h rfl
  refine ⟨zq_k_n 97 h rfl (zq_o_97 _), ?_⟩
  replace h := zq_nx1 (q := 117) h rfl
  refine ⟨zq_k_u2 182 (fun z => .invokevirtual z) 274 h rfl (zq_o_182 _) (by decide +kernel), ?_⟩
  replace h := zq_nx3 (q := 120) h rfl
  refine ⟨zq_k_u2 182 (fun z => .invokevirtual z) 185 h rfl (zq_o_182 _) (by decide +kernel), ?_⟩
  replace h := zq_nx3 (q := 123) h rfl
  refine ⟨zq_k_s2 156 (fun z => .ifCond .ge z) 9 h rfl (zq_o_156 _) (by decide +kernel), ?_⟩
  replace h := zq_nx3 (q := 126) h rfl
  refine ⟨zq_k_s1 16 (fun z => .bipush z) (-20) h rfl (zq_o_16 _) (by decide +kernel), ?_⟩
  replace h := zq_nx2 (q := 128) h rfl
  refine ⟨zq_k_u1 21 (fun z => .iload z) 8 h rfl (zq_o_21 _) (by decide +kernel), ?_⟩
  replace h := zq_nx2 (q := 130) h rfl
  refine ⟨zq_k_n 100 h rfl (zq_o_100 _), ?_⟩
  replace h := zq_nx1 (q := 131) h rfl
  refine ⟨zq_k_n 172 h rfl (zq_o_172 _), ?_⟩
  replace h := zq_nx1 (q := 132) h rfl
  refine ⟨zq_k_iinc 6 1 h rfl (zq_o_132 _) (by decide +kernel) (by decide +kernel), ?_⟩
  replace h := zq_nx3 (q := 135) h rfl
  exact zq_k_iinc 8 1 h rfl (zq_o_132 _) (by decide +kernel) (by decide +kernel)
set_option maxRecDepth 100000 in
theorem dd_Q_read_138 : (decode prog_1_method_37_code 138 = .ok (.goto (-74), 3)) ∧ (decode prog_1_method_37_code 141 = .ok (.aload_n 0, 1)) ∧ (decode prog_1_method_37_code 142 = .ok (.getfield 19, 3)) ∧ (decode prog_1_method_37_code 145 = .ok (.aload_n 0, 1)) ∧ (decode prog_1_method_37_code 146 = .ok (.getfield 23, 3)) ∧ (decode prog_1_method_37_code 149 = .ok (.invokevirtual 81, 3)) ∧ (decode prog_1_method_37_code 152 = .ok (.aload_n 0, 1)) ∧ (decode prog_1_method_37_code 153 = .ok (.iload 7, 2)) ∧ (decode prog_1_method_37_code 155 = .ok (.putfield 277, 3)) ∧ (decode prog_1_method_37_code 158 = .ok (.iload 6, 2)) ∧ (decode prog_1_method_37_code 160 = .ok (.ireturn, 1)) := by
  have h : List.drop 138 prog_1_method_37_code.data.toList = 0xa7 :: _ := rfl
  refine ⟨zq_k_s2 167 (fun z => .goto z) (-74) h rfl (zq_o_167 _) (by decide +kernel), ?_⟩
  replace h := zq_nx3 (q := 141) h rfl
  refine ⟨zq_k_n 42 h rfl (zq_o_42 _), ?_⟩
  replace h := zq_nx1 (q := 142) h rfl
  refine ⟨zq_k_u2 180 (fun z => .getfield z) 19 h rfl (zq_o_180 _) (by decide +kernel), ?_⟩
  replace h := zq_nx3 (q := 145) h rfl
  refine ⟨zq_k_n 42 h rfl (zq_o_42 _), ?_⟩
  replace h := zq_nx1 (q := 146) h rfl
  refine ⟨zq_k_u2 180 (fun z => .getfield z) 23 h rfl (zq_o_180 _) (by decide +kernel), ?_⟩
  replace h := zq_nx3 (q := 149) h rfl
  refine ⟨zq_k_u2 182 (fun z => .invokevirtual z) 81 h rfl (zq_o_182 _) (by decide +kernel), ?_⟩
  replace h := zq_nx3 (q := 152) h rfl
  refine ⟨zq_k_n 42 h rfl (zq_o_42 _), ?_⟩
  replace h := zq_nx1 (q := 153) h rfl
  refine ⟨zq_k_u1 21 (fun z => .iload z) 7 h rfl (zq_o_21 _) (by decide +kernel), ?_⟩
  replace h := zq_nx2 (q := 155) h rfl
  refine ⟨zq_k_u2 181 (fun z => .putfield z) 277 h rfl (zq_o_181 _) (by decide +kernel), ?_⟩
  replace h := zq_nx3 (q := 158) h rfl
  refine ⟨zq_k_u1 21 (fun z => .iload z) 6 h rfl (zq_o_21 _) (by decide +kernel), ?_⟩
  replace h := zq_nx2 (q := 160) h rfl
  exact zq_k_n 172 h rfl (zq_o_172 _)
def f_Q_read_141  (b0 : Nat) (b6 : Int32) (b7 : Int32) (h : mH) : Option (Int32 × mH) :=
  bd1 (gR h b0 0 1) fun x56 =>
  bd1 (gR h b0 0 2) fun x58 =>
  bd1 (kC h x56 4) fun _ =>
  bd1 (f_Realm_copyFrom x56 x58 h) fun h62 =>
  bd1 (pV h62 b0 0 9 (.int b7)) fun h64 =>
  some (b6, h64)
set_option maxRecDepth 20000 in
theorem t_Q_read_141 {sc : Nat × (Nat → Int32)}  (b0 : Nat) (b6 : Int32) (b7 : Int32) (h : mH) (r : Int32) (h' : mH) (hf : f_Q_read_141  b0 b6 b7 h = some (r, h')) : G sc y_Q_read prog_1_method_37_code 11 (some .int) 4 90 141 [(0, .ref b0), (6, .int b6), (7, .int b7)] [] h (some (.int r)) h' := by
  unfold f_Q_read_141 at hf
  refine g_aload_n (pc := 141) 0 dd_Q_read_138.2.1 rfl rfl ?_
  obtain ⟨x56, e57, hf⟩ := bd1_e hf
  refine g_get (pc := 142) (ci := 0) (kk := 1) dd_Q_read_138.2.2.1 rfl in_Q (by decide) wd_297 (gR_spec e57) ?_
  refine g_aload_n (pc := 145) 0 dd_Q_read_138.2.2.2.1 rfl rfl ?_
  obtain ⟨x58, e59, hf⟩ := bd1_e hf
  refine g_get (pc := 146) (ci := 0) (kk := 2) dd_Q_read_138.2.2.2.2.1 rfl in_Q (by decide) wd_298 (gR_spec e59) ?_
  obtain ⟨u61, e60, hf⟩ := bd1_e hf
  obtain ⟨h62, e63, hf⟩ := bd1_e hf
  refine g_callV (pc := 149) (ci := 4) [.ref x58] (site_of si_Realm_copyFrom (by decide) (by decide)) wd_495 wd_496 wd_497 dd_Q_read_138.2.2.2.2.2.1 rfl e60 (Nat.le_of_ble_eq_true rfl) (fun z => absurd z si_na_Realm_copyFrom) (fun z => absurd z si_na_Realm_copyFrom) (fun z => absurd z si_na_Realm_copyFrom) (c_Realm_copyFrom e63) rfl ?_
  refine g_st [] rfl ?_
  refine g_aload_n (pc := 152) 0 dd_Q_read_138.2.2.2.2.2.2.1 rfl rfl ?_
  refine g_iload (pc := 153) 2 dd_Q_read_138.2.2.2.2.2.2.2.1 rfl ?_
  obtain ⟨h64, e65, hf⟩ := bd1_e hf
  refine g_put (pc := 155) (ci := 0) (kk := 9) ty_Q tyok_Q nm_Q dd_Q_read_138.2.2.2.2.2.2.2.2.1 rfl in_Q (by decide) wd_305 rfl (fun _ => rfl) (fun _ => rfl) (fun _ z => by cases z) e65 ?_
  refine g_iload (pc := 158) 1 dd_Q_read_138.2.2.2.2.2.2.2.2.2.1 rfl ?_
  obtain ⟨rfl, rfl⟩ := ret2 hf
  exact g_iret (pc := 160) rfl dd_Q_read_138.2.2.2.2.2.2.2.2.2.2
def f_Q_read_135 (rec64 : Nat → Int32 → Int32 → Nat → Int32 → Int32 → Int32 → mH → Option (Int32 × mH)) (b0 : Nat) (b3 : Int32) (b4 : Int32) (b5 : Nat) (b6 : Int32) (b7 : Int32) (b8 : Int32) (h : mH) : Option (Int32 × mH) :=
  rec64 b0 b3 b4 b5 b6 b7 (b8 + (1 : Int32)) h
set_option maxRecDepth 20000 in
theorem t_Q_read_135 {sc : Nat × (Nat → Int32)} (rec64 : Nat → Int32 → Int32 → Nat → Int32 → Int32 → Int32 → mH → Option (Int32 × mH)) (hrec64 : ∀ (b0 : Nat) (b3 : Int32) (b4 : Int32) (b5 : Nat) (b6 : Int32) (b7 : Int32) (b8 : Int32) (h : mH) (r : Int32) (h' : mH), rec64 b0 b3 b4 b5 b6 b7 b8 h = some (r, h') → G sc y_Q_read prog_1_method_37_code 11 (some .int) 4 90 64 [(0, .ref b0), (3, .int b3), (4, .int b4), (5, .ref b5), (6, .int b6), (7, .int b7), (8, .int b8)] [] h (some (.int r)) h') (b0 : Nat) (b3 : Int32) (b4 : Int32) (b5 : Nat) (b6 : Int32) (b7 : Int32) (b8 : Int32) (h : mH) (r : Int32) (h' : mH) (hf : f_Q_read_135 rec64 b0 b3 b4 b5 b6 b7 b8 h = some (r, h')) : G sc y_Q_read prog_1_method_37_code 11 (some .int) 4 90 135 [(0, .ref b0), (3, .int b3), (4, .int b4), (5, .ref b5), (6, .int b6), (7, .int b7), (8, .int b8)] [] h (some (.int r)) h' := by
  unfold f_Q_read_135 at hf
  refine g_iinc (pc := 135) 6 (b8 + (1 : Int32)) [(8, .int (b8 + (1 : Int32))), (0, .ref b0), (3, .int b3), (4, .int b4), (5, .ref b5), (6, .int b6), (7, .int b7)] dd_Q_read_86.2.2.2.2.2.2.2.2.2.2.2.2.2.2.2.2.2.2.2.2.2.2.2 rfl rfl (Nat.le_of_ble_eq_true rfl) rfl ?_
  refine g_goto (pc := 138) 64 dd_Q_read_138.1 (by decide) ?_
  refine g_lv [1, 2, 3, 4, 5, 6, 0] rfl ?_
  exact hrec64 _ _ _ _ _ _ _ _ _ _  hf
def f_Q_read_64b (rec64 : Nat → Int32 → Int32 → Nat → Int32 → Int32 → Int32 → mH → Option (Int32 × mH)) (b0 : Nat) (b3 : Int32) (b4 : Int32) (b5 : Nat) (b6 : Int32) (b7 : Int32) (b8 : Int32) (h : mH) : Option (Int32 × mH) :=
  if b4 ≤ b8 then
    f_Q_read_141  b0 b6 b7 h
  else
    if b7 = 0 then
      bd1 (kC h b5 5) fun _ =>
      bd2 (f_Sheet_faultOfPair b5 (b3.toInt64 + (((2 : Int32) * b8).toInt64)) h) fun x34 h32 =>
      if x34 = 0 then
        bd1 (gR h32 b0 0 2) fun x35 =>
        bd1 (kC h32 b5 5) fun _ =>
        bd2 (f_Sheet_cellAt b5 (b3.toInt64 + (((2 : Int32) * b8).toInt64)) h32) fun x41 h39 =>
        bd1 (kC h39 b5 5) fun _ =>
        bd2 (f_Sheet_cellAt b5 ((b3.toInt64 + (((2 : Int32) * b8).toInt64)) + (1 : Int64)) h39) fun x46 h44 =>
        bd1 (kC h44 x35 4) fun _ =>
        bd2 (f_Realm_breakOnce x35 x41 x46 h44) fun x51 h49 =>
        if 0 ≤ x51 then
          f_Q_read_135 rec64 b0 b3 b4 b5 (b6 + (1 : Int32)) x34 b8 h49
        else
          some (((-20) : Int32) - b8, h49)
      else
        f_Q_read_135 rec64 b0 b3 b4 b5 b6 x34 b8 h32
    else
      f_Q_read_141  b0 b6 b7 h
set_option maxRecDepth 20000 in
theorem t_Q_read_64b {sc : Nat × (Nat → Int32)} (rec64 : Nat → Int32 → Int32 → Nat → Int32 → Int32 → Int32 → mH → Option (Int32 × mH)) (hrec64 : ∀ (b0 : Nat) (b3 : Int32) (b4 : Int32) (b5 : Nat) (b6 : Int32) (b7 : Int32) (b8 : Int32) (h : mH) (r : Int32) (h' : mH), rec64 b0 b3 b4 b5 b6 b7 b8 h = some (r, h') → G sc y_Q_read prog_1_method_37_code 11 (some .int) 4 90 64 [(0, .ref b0), (3, .int b3), (4, .int b4), (5, .ref b5), (6, .int b6), (7, .int b7), (8, .int b8)] [] h (some (.int r)) h') (b0 : Nat) (b3 : Int32) (b4 : Int32) (b5 : Nat) (b6 : Int32) (b7 : Int32) (b8 : Int32) (h : mH) (r : Int32) (h' : mH) (hf : f_Q_read_64b rec64 b0 b3 b4 b5 b6 b7 b8 h = some (r, h')) : G sc y_Q_read prog_1_method_37_code 11 (some .int) 4 90 64 [(0, .ref b0), (3, .int b3), (4, .int b4), (5, .ref b5), (6, .int b6), (7, .int b7), (8, .int b8)] [] h (some (.int r)) h' := by
  unfold f_Q_read_64b at hf
  refine g_iload (pc := 64) 6 dd_Q_read_43.2.2.2.2.2.2.2.2.2.2.2.1 rfl ?_
  refine g_iload (pc := 66) 2 dd_Q_read_43.2.2.2.2.2.2.2.2.2.2.2.2.1 rfl ?_
  refine g_icmpge (pc := 68) 141 dd_Q_read_43.2.2.2.2.2.2.2.2.2.2.2.2.2.1 (by decide) (fun c55 => ?_) (fun c55 => ?_)
  · replace hf := (if_pos c55).symm.trans hf
    refine g_lv [0, 4, 5] rfl ?_
    exact t_Q_read_141  _ _ _ _ _ _  hf
  · replace hf := (if_neg c55).symm.trans hf
    refine g_iload (pc := 71) 5 dd_Q_read_43.2.2.2.2.2.2.2.2.2.2.2.2.2.2.1 rfl ?_
    refine g_ifne (pc := 73) 141 dd_Q_read_43.2.2.2.2.2.2.2.2.2.2.2.2.2.2.2.1 (by decide) (fun c54 => ?_) (fun c54 => ?_)
    · replace hf := (if_neg c54).symm.trans hf
      refine g_lv [0, 4, 5] rfl ?_
      exact t_Q_read_141  _ _ _ _ _ _  hf
    · replace hf := (if_pos c54).symm.trans hf
      refine g_iload_n (pc := 76) 1 dd_Q_read_43.2.2.2.2.2.2.2.2.2.2.2.2.2.2.2.2.1 rfl rfl ?_
      refine g_i2l (pc := 77) dd_Q_read_43.2.2.2.2.2.2.2.2.2.2.2.2.2.2.2.2.2.1 ?_
      refine g_iconst (pc := 78) (2 : Int32) dd_Q_read_43.2.2.2.2.2.2.2.2.2.2.2.2.2.2.2.2.2.2.1 (by decide) ?_
      refine g_iload (pc := 79) 6 dd_Q_read_43.2.2.2.2.2.2.2.2.2.2.2.2.2.2.2.2.2.2.2.1 rfl ?_
      refine g_imul (pc := 81) dd_Q_read_43.2.2.2.2.2.2.2.2.2.2.2.2.2.2.2.2.2.2.2.2.1 ?_
      refine g_i2l (pc := 82) dd_Q_read_43.2.2.2.2.2.2.2.2.2.2.2.2.2.2.2.2.2.2.2.2.2.1 ?_
      refine g_ladd (pc := 83) dd_Q_read_43.2.2.2.2.2.2.2.2.2.2.2.2.2.2.2.2.2.2.2.2.2.2.1 ?_
      refine g_lstore (pc := 84) [(9, .long (b3.toInt64 + (((2 : Int32) * b8).toInt64))), (0, .ref b0), (3, .int b3), (4, .int b4), (5, .ref b5), (6, .int b6), (7, .int b7), (8, .int b8)] dd_Q_read_43.2.2.2.2.2.2.2.2.2.2.2.2.2.2.2.2.2.2.2.2.2.2.2 (Nat.le_of_ble_eq_true rfl) rfl ?_
      refine g_aload (pc := 86) 4 dd_Q_read_86.1 rfl ?_
      refine g_lload (pc := 88) 0 dd_Q_read_86.2.1 rfl ?_
      obtain ⟨u31, e30, hf⟩ := bd1_e hf
      obtain ⟨x34, h32, e33, hf⟩ := bd2_e hf
      refine g_callV (pc := 90) (ci := 5) [.long (b3.toInt64 + (((2 : Int32) * b8).toInt64))] (site_of si_Sheet_faultOfPair (by decide) (by decide)) wd_891 wd_892 wd_893 dd_Q_read_86.2.2.1 rfl e30 (Nat.le_of_ble_eq_true rfl) (fun z => absurd z si_na_Sheet_faultOfPair) (fun z => absurd z si_na_Sheet_faultOfPair) (fun z => absurd z si_na_Sheet_faultOfPair) (c_Sheet_faultOfPair e33) rfl ?_
      refine g_st [.int x34] rfl ?_
      refine g_istore (pc := 93) [(7, .int x34), (9, .long (b3.toInt64 + (((2 : Int32) * b8).toInt64))), (0, .ref b0), (3, .int b3), (4, .int b4), (5, .ref b5), (6, .int b6), (8, .int b8)] dd_Q_read_86.2.2.2.1 (Nat.le_of_ble_eq_true rfl) rfl ?_
      refine g_iload (pc := 95) 0 dd_Q_read_86.2.2.2.2.1 rfl ?_
      refine g_ifne (pc := 97) 135 dd_Q_read_86.2.2.2.2.2.1 (by decide) (fun c53 => ?_) (fun c53 => ?_)
      · replace hf := (if_neg c53).symm.trans hf
        refine g_lv [2, 3, 4, 5, 6, 0, 7] rfl ?_
        exact t_Q_read_135 rec64 hrec64 _ _ _ _ _ _ _ _ _ _  hf
      · replace hf := (if_pos c53).symm.trans hf
        refine g_aload_n (pc := 100) 2 dd_Q_read_86.2.2.2.2.2.2.1 rfl rfl ?_
        obtain ⟨x35, e36, hf⟩ := bd1_e hf
        refine g_get (pc := 101) (ci := 0) (kk := 2) dd_Q_read_86.2.2.2.2.2.2.2.1 rfl in_Q (by decide) wd_298 (gR_spec e36) ?_
        refine g_aload (pc := 104) 5 dd_Q_read_86.2.2.2.2.2.2.2.2.1 rfl ?_
        refine g_lload (pc := 106) 1 dd_Q_read_86.2.2.2.2.2.2.2.2.2.1 rfl ?_
        obtain ⟨u38, e37, hf⟩ := bd1_e hf
        obtain ⟨x41, h39, e40, hf⟩ := bd2_e hf
        refine g_callV (pc := 108) (ci := 5) [.long (b3.toInt64 + (((2 : Int32) * b8).toInt64))] (site_of si_Sheet_cellAt (by decide) (by decide)) wd_896 wd_897 wd_898 dd_Q_read_86.2.2.2.2.2.2.2.2.2.2.1 rfl e37 (Nat.le_of_ble_eq_true rfl) (fun z => absurd z si_na_Sheet_cellAt) (fun z => absurd z si_na_Sheet_cellAt) (fun z => absurd z si_na_Sheet_cellAt) (c_Sheet_cellAt e40) rfl ?_
        refine g_st [.int x41, .ref x35] rfl ?_
        refine g_aload (pc := 111) 5 dd_Q_read_86.2.2.2.2.2.2.2.2.2.2.2.1 rfl ?_
        refine g_lload (pc := 113) 1 dd_Q_read_86.2.2.2.2.2.2.2.2.2.2.2.2.1 rfl ?_
        refine g_lconst (pc := 115) (1 : Int64) dd_Q_read_86.2.2.2.2.2.2.2.2.2.2.2.2.2.1 (by decide) ?_
        refine g_ladd (pc := 116) dd_Q_read_86.2.2.2.2.2.2.2.2.2.2.2.2.2.2.1 ?_
        obtain ⟨u43, e42, hf⟩ := bd1_e hf
        obtain ⟨x46, h44, e45, hf⟩ := bd2_e hf
        refine g_callV (pc := 117) (ci := 5) [.long ((b3.toInt64 + (((2 : Int32) * b8).toInt64)) + (1 : Int64))] (site_of si_Sheet_cellAt (by decide) (by decide)) wd_896 wd_897 wd_898 dd_Q_read_86.2.2.2.2.2.2.2.2.2.2.2.2.2.2.2.1 rfl e42 (Nat.le_of_ble_eq_true rfl) (fun z => absurd z si_na_Sheet_cellAt) (fun z => absurd z si_na_Sheet_cellAt) (fun z => absurd z si_na_Sheet_cellAt) (c_Sheet_cellAt e45) rfl ?_
        refine g_st [.int x46, .int x41, .ref x35] rfl ?_
        obtain ⟨u48, e47, hf⟩ := bd1_e hf
        obtain ⟨x51, h49, e50, hf⟩ := bd2_e hf
        refine g_callV (pc := 120) (ci := 4) [.int x41, .int x46] (site_of si_Realm_breakOnce (by decide) (by decide)) wd_625 wd_626 wd_627 dd_Q_read_86.2.2.2.2.2.2.2.2.2.2.2.2.2.2.2.2.1 rfl e47 (Nat.le_of_ble_eq_true rfl) (fun z => absurd z si_na_Realm_breakOnce) (fun z => absurd z si_na_Realm_breakOnce) (fun z => absurd z si_na_Realm_breakOnce) (c_Realm_breakOnce e50) rfl ?_
        refine g_st [.int x51] rfl ?_
        refine g_ifge (pc := 123) 132 dd_Q_read_86.2.2.2.2.2.2.2.2.2.2.2.2.2.2.2.2.2.1 (by decide) (fun c52 => ?_) (fun c52 => ?_)
        · replace hf := (if_pos c52).symm.trans hf
          refine g_iinc (pc := 132) 6 (b6 + (1 : Int32)) [(6, .int (b6 + (1 : Int32))), (7, .int x34), (9, .long (b3.toInt64 + (((2 : Int32) * b8).toInt64))), (0, .ref b0), (3, .int b3), (4, .int b4), (5, .ref b5), (8, .int b8)] dd_Q_read_86.2.2.2.2.2.2.2.2.2.2.2.2.2.2.2.2.2.2.2.2.2.2.1 rfl rfl (Nat.le_of_ble_eq_true rfl) rfl ?_
          refine g_lv [3, 4, 5, 6, 0, 1, 7] rfl ?_
          exact t_Q_read_135 rec64 hrec64 _ _ _ _ _ _ _ _ _ _  hf
        · replace hf := (if_neg c52).symm.trans hf
          refine g_bipush (pc := 126) ((-20) : Int32) dd_Q_read_86.2.2.2.2.2.2.2.2.2.2.2.2.2.2.2.2.2.2.1 (by decide) ?_
          refine g_iload (pc := 128) 7 dd_Q_read_86.2.2.2.2.2.2.2.2.2.2.2.2.2.2.2.2.2.2.2.1 rfl ?_
          refine g_isub (pc := 130) dd_Q_read_86.2.2.2.2.2.2.2.2.2.2.2.2.2.2.2.2.2.2.2.2.1 ?_
          obtain ⟨rfl, rfl⟩ := ret2 hf
          exact g_iret (pc := 131) rfl dd_Q_read_86.2.2.2.2.2.2.2.2.2.2.2.2.2.2.2.2.2.2.2.2.2.1
def f_Q_read_64  : Nat → Nat → Int32 → Int32 → Nat → Int32 → Int32 → Int32 → mH → Option (Int32 × mH)
  | 0 => fun _ _ _ _ _ _ _ _ => none
  | n + 1 => f_Q_read_64b  (f_Q_read_64  n)
theorem t_Q_read_64 {sc : Nat × (Nat → Int32)}  : ∀ (n : Nat) (b0 : Nat) (b3 : Int32) (b4 : Int32) (b5 : Nat) (b6 : Int32) (b7 : Int32) (b8 : Int32) (h : mH) (r : Int32) (h' : mH) (hf : f_Q_read_64  n b0 b3 b4 b5 b6 b7 b8 h = some (r, h')), G sc y_Q_read prog_1_method_37_code 11 (some .int) 4 90 64 [(0, .ref b0), (3, .int b3), (4, .int b4), (5, .ref b5), (6, .int b6), (7, .int b7), (8, .int b8)] [] h (some (.int r)) h'
  | 0, _, _, _, _, _, _, _, _, _, _, hf => by cases hf
  | n + 1, _, _, _, _, _, _, _, _, _, _, hf => t_Q_read_64b  (f_Q_read_64  n) (t_Q_read_64  n) _ _ _ _ _ _ _ _ _ _ hf
def f_Q_read_29   (h : mH) : Option (Int32 × mH) :=
  some (((-1) : Int32), h)
set_option maxRecDepth 20000 in
theorem t_Q_read_29 {sc : Nat × (Nat → Int32)}   (h : mH) (r : Int32) (h' : mH) (hf : f_Q_read_29   h = some (r, h')) : G sc y_Q_read prog_1_method_37_code 11 (some .int) 4 90 29 [] [] h (some (.int r)) h' := by
  unfold f_Q_read_29 at hf
  refine g_iconst (pc := 29) ((-1) : Int32) dd_Q_read_0.2.2.2.2.2.2.2.2.2.2.2.2.2.2.2.1 (by decide) ?_
  obtain ⟨rfl, rfl⟩ := ret2 hf
  exact g_iret (pc := 30) rfl dd_Q_read_0.2.2.2.2.2.2.2.2.2.2.2.2.2.2.2.2.1
def f_Q_read_0  (a0 : Nat) (a1 : Int32) (a2 : Int32) (a3 : Int32) (a4 : Int32) (h : mH) : Option (Int32 × mH) :=
  bd2 (f_Q_isWithin a1 (0 : Int32) (3 : Int32) h) fun x3 h1 =>
  if x3 = 0 then
    f_Q_read_29  h1
  else
    bd2 (f_Q_isWithin a2 (0 : Int32) (2 : Int32) h1) fun x6 h4 =>
    if x6 = 0 then
      f_Q_read_29  h4
    else
      bd2 (f_Q_isWithin a4 (0 : Int32) (20 : Int32) h4) fun x9 h7 =>
      if x9 = 0 then
        f_Q_read_29  h7
      else
        bd1 (gR h7 a0 0 5) fun x10 =>
        bd1 (aR h7 5 x10 a1) fun x12 =>
        bd1 (gR h7 a0 0 2) fun x14 =>
        bd1 (gR h7 a0 0 1) fun x16 =>
        bd1 (kC h7 x14 4) fun _ =>
        bd1 (f_Realm_copyFrom x14 x16 h7) fun h20 =>
        bd1 (kC h20 x12 5) fun _ =>
        bd2 (f_Sheet_faultAs x12 a2 h20) fun x26 h24 =>
        f_Q_read_64  FU a0 a3 a4 x12 (0 : Int32) x26 (0 : Int32) h24
set_option maxRecDepth 20000 in
theorem t_Q_read_0 {sc : Nat × (Nat → Int32)}  (a0 : Nat) (a1 : Int32) (a2 : Int32) (a3 : Int32) (a4 : Int32) (h : mH) (r : Int32) (h' : mH) (hf : f_Q_read_0  a0 a1 a2 a3 a4 h = some (r, h')) : G sc y_Q_read prog_1_method_37_code 11 (some .int) 4 90 0 [(0, .ref a0), (1, .int a1), (2, .int a2), (3, .int a3), (4, .int a4)] [] h (some (.int r)) h' := by
  unfold f_Q_read_0 at hf
  refine g_iload_n (pc := 0) 1 dd_Q_read_0.1 rfl rfl ?_
  refine g_iconst (pc := 1) (0 : Int32) dd_Q_read_0.2.1 (by decide) ?_
  refine g_iconst (pc := 2) (3 : Int32) dd_Q_read_0.2.2.1 (by decide) ?_
  obtain ⟨x3, h1, e2, hf⟩ := bd2_e hf
  refine g_callS (pc := 3) [.int a1, .int (0 : Int32), .int (3 : Int32)] (site_of si_Q_isWithin (by decide) (by decide)) wd_331 wd_332 dd_Q_read_0.2.2.2.1 (Nat.le_of_ble_eq_true rfl) (fun z => absurd z si_na_Q_isWithin) (fun z => absurd z si_na_Q_isWithin) (fun z => absurd z si_na_Q_isWithin) (c_Q_isWithin e2) rfl ?_
  refine g_st [.int x3] rfl ?_
  refine g_ifeq (pc := 6) 29 dd_Q_read_0.2.2.2.2.1 (by decide) (fun c29 => ?_) (fun c29 => ?_)
  · replace hf := (if_pos c29).symm.trans hf
    refine g_lv [] rfl ?_
    exact t_Q_read_29  _ _ _  hf
  · replace hf := (if_neg c29).symm.trans hf
    refine g_iload_n (pc := 9) 2 dd_Q_read_0.2.2.2.2.2.1 rfl rfl ?_
    refine g_iconst (pc := 10) (0 : Int32) dd_Q_read_0.2.2.2.2.2.2.1 (by decide) ?_
    refine g_iconst (pc := 11) (2 : Int32) dd_Q_read_0.2.2.2.2.2.2.2.1 (by decide) ?_
    obtain ⟨x6, h4, e5, hf⟩ := bd2_e hf
    refine g_callS (pc := 12) [.int a2, .int (0 : Int32), .int (2 : Int32)] (site_of si_Q_isWithin (by decide) (by decide)) wd_331 wd_332 dd_Q_read_0.2.2.2.2.2.2.2.2.1 (Nat.le_of_ble_eq_true rfl) (fun z => absurd z si_na_Q_isWithin) (fun z => absurd z si_na_Q_isWithin) (fun z => absurd z si_na_Q_isWithin) (c_Q_isWithin e5) rfl ?_
    refine g_st [.int x6] rfl ?_
    refine g_ifeq (pc := 15) 29 dd_Q_read_0.2.2.2.2.2.2.2.2.2.1 (by decide) (fun c28 => ?_) (fun c28 => ?_)
    · replace hf := (if_pos c28).symm.trans hf
      refine g_lv [] rfl ?_
      exact t_Q_read_29  _ _ _  hf
    · replace hf := (if_neg c28).symm.trans hf
      refine g_iload (pc := 18) 4 dd_Q_read_0.2.2.2.2.2.2.2.2.2.2.1 rfl ?_
      refine g_iconst (pc := 20) (0 : Int32) dd_Q_read_0.2.2.2.2.2.2.2.2.2.2.2.1 (by decide) ?_
      refine g_bipush (pc := 21) (20 : Int32) dd_Q_read_0.2.2.2.2.2.2.2.2.2.2.2.2.1 (by decide) ?_
      obtain ⟨x9, h7, e8, hf⟩ := bd2_e hf
      refine g_callS (pc := 23) [.int a4, .int (0 : Int32), .int (20 : Int32)] (site_of si_Q_isWithin (by decide) (by decide)) wd_331 wd_332 dd_Q_read_0.2.2.2.2.2.2.2.2.2.2.2.2.2.1 (Nat.le_of_ble_eq_true rfl) (fun z => absurd z si_na_Q_isWithin) (fun z => absurd z si_na_Q_isWithin) (fun z => absurd z si_na_Q_isWithin) (c_Q_isWithin e8) rfl ?_
      refine g_st [.int x9] rfl ?_
      refine g_ifne (pc := 26) 31 dd_Q_read_0.2.2.2.2.2.2.2.2.2.2.2.2.2.2.1 (by decide) (fun c27 => ?_) (fun c27 => ?_)
      · replace hf := (if_neg c27).symm.trans hf
        refine g_aload_n (pc := 31) 0 dd_Q_read_0.2.2.2.2.2.2.2.2.2.2.2.2.2.2.2.2.2.1 rfl rfl ?_
        obtain ⟨x10, e11, hf⟩ := bd1_e hf
        refine g_get (pc := 32) (ci := 0) (kk := 5) dd_Q_read_0.2.2.2.2.2.2.2.2.2.2.2.2.2.2.2.2.2.2.1 rfl in_Q (by decide) wd_301 (gR_spec e11) ?_
        refine g_iload_n (pc := 35) 1 dd_Q_read_0.2.2.2.2.2.2.2.2.2.2.2.2.2.2.2.2.2.2.2.1 rfl rfl ?_
        obtain ⟨x12, e13, hf⟩ := bd1_e hf
        refine g_aald (pc := 36) "QuotaLaws$Sheet" dd_Q_read_0.2.2.2.2.2.2.2.2.2.2.2.2.2.2.2.2.2.2.2.2.1 (fun _ => rfl) e13 ?_
        refine g_astore (pc := 37) [(5, .ref x12), (0, .ref a0), (1, .int a1), (2, .int a2), (3, .int a3), (4, .int a4)] dd_Q_read_0.2.2.2.2.2.2.2.2.2.2.2.2.2.2.2.2.2.2.2.2.2.1 (Nat.le_of_ble_eq_true rfl) rfl ?_
        refine g_aload_n (pc := 39) 1 dd_Q_read_0.2.2.2.2.2.2.2.2.2.2.2.2.2.2.2.2.2.2.2.2.2.2.1 rfl rfl ?_
        obtain ⟨x14, e15, hf⟩ := bd1_e hf
        refine g_get (pc := 40) (ci := 0) (kk := 2) dd_Q_read_0.2.2.2.2.2.2.2.2.2.2.2.2.2.2.2.2.2.2.2.2.2.2.2 rfl in_Q (by decide) wd_298 (gR_spec e15) ?_
        refine g_aload_n (pc := 43) 1 dd_Q_read_43.1 rfl rfl ?_
        obtain ⟨x16, e17, hf⟩ := bd1_e hf
        refine g_get (pc := 44) (ci := 0) (kk := 1) dd_Q_read_43.2.1 rfl in_Q (by decide) wd_297 (gR_spec e17) ?_
        obtain ⟨u19, e18, hf⟩ := bd1_e hf
        obtain ⟨h20, e21, hf⟩ := bd1_e hf
        refine g_callV (pc := 47) (ci := 4) [.ref x16] (site_of si_Realm_copyFrom (by decide) (by decide)) wd_495 wd_496 wd_497 dd_Q_read_43.2.2.1 rfl e18 (Nat.le_of_ble_eq_true rfl) (fun z => absurd z si_na_Realm_copyFrom) (fun z => absurd z si_na_Realm_copyFrom) (fun z => absurd z si_na_Realm_copyFrom) (c_Realm_copyFrom e21) rfl ?_
        refine g_st [] rfl ?_
        refine g_iconst (pc := 50) (0 : Int32) dd_Q_read_43.2.2.2.1 (by decide) ?_
        refine g_istore (pc := 51) [(6, .int (0 : Int32)), (5, .ref x12), (0, .ref a0), (1, .int a1), (2, .int a2), (3, .int a3), (4, .int a4)] dd_Q_read_43.2.2.2.2.1 (Nat.le_of_ble_eq_true rfl) rfl ?_
        refine g_aload (pc := 53) 1 dd_Q_read_43.2.2.2.2.2.1 rfl ?_
        refine g_iload_n (pc := 55) 4 dd_Q_read_43.2.2.2.2.2.2.1 rfl rfl ?_
        obtain ⟨u23, e22, hf⟩ := bd1_e hf
        obtain ⟨x26, h24, e25, hf⟩ := bd2_e hf
        refine g_callV (pc := 56) (ci := 5) [.int a2] (site_of si_Sheet_faultAs (by decide) (by decide)) wd_887 wd_888 wd_889 dd_Q_read_43.2.2.2.2.2.2.2.1 rfl e22 (Nat.le_of_ble_eq_true rfl) (fun z => absurd z si_na_Sheet_faultAs) (fun z => absurd z si_na_Sheet_faultAs) (fun z => absurd z si_na_Sheet_faultAs) (c_Sheet_faultAs e25) rfl ?_
        refine g_st [.int x26] rfl ?_
        refine g_istore (pc := 59) [(7, .int x26), (6, .int (0 : Int32)), (5, .ref x12), (0, .ref a0), (1, .int a1), (2, .int a2), (3, .int a3), (4, .int a4)] dd_Q_read_43.2.2.2.2.2.2.2.2.1 (Nat.le_of_ble_eq_true rfl) rfl ?_
        refine g_iconst (pc := 61) (0 : Int32) dd_Q_read_43.2.2.2.2.2.2.2.2.2.1 (by decide) ?_
        refine g_istore (pc := 62) [(8, .int (0 : Int32)), (7, .int x26), (6, .int (0 : Int32)), (5, .ref x12), (0, .ref a0), (1, .int a1), (2, .int a2), (3, .int a3), (4, .int a4)] dd_Q_read_43.2.2.2.2.2.2.2.2.2.2.1 (Nat.le_of_ble_eq_true rfl) rfl ?_
        refine g_lv [4, 7, 8, 3, 2, 1, 0] rfl ?_
        exact t_Q_read_64  FU _ _ _ _ _ _ _ _ _ _  hf
      · replace hf := (if_pos c27).symm.trans hf
        refine g_lv [] rfl ?_
        exact t_Q_read_29  _ _ _  hf
def f_Q_read (a0 : Nat) (a1 : Int32) (a2 : Int32) (a3 : Int32) (a4 : Int32) (h : mH) : Option (Int32 × mH) := f_Q_read_0 a0 a1 a2 a3 a4 h
theorem c_Q_read {sc : Nat × (Nat → Int32)} {a0 : Nat} {a1 : Int32} {a2 : Int32} {a3 : Int32} {a4 : Int32} {h : mH} {r : Int32} {h' : mH} (hf : f_Q_read a0 a1 a2 a3 a4 h = some (r, h')) : MM sc y_Q_read prog_1_method_37_code 11 (some .int) 4 90 [.ref a0, .int a1, .int a2, .int a3, .int a4] h (some (.int r)) h' :=
  mm_of_G si_pn_Q (Nat.le_of_ble_eq_true rfl) (t_Q_read_0 _ _ _ _ _ _ _ _ hf)
/-! Q torn ()I -/
set_option maxRecDepth 100000 in
theorem dd_Q_torn_0 : (decode prog_1_method_38_code 0 = .ok (.aload_n 0, 1)) ∧ (decode prog_1_method_38_code 1 = .ok (.getfield 277, 3)) ∧ (decode prog_1_method_38_code 4 = .ok (.ireturn, 1)) := by
  have h : List.drop 0 prog_1_method_38_code.data.toList = 0x2a :: _ := rfl
  refine ⟨zq_k_n 42 h rfl (zq_o_42 _), ?_⟩
  replace h := zq_nx1 (q := 1) h rfl
  refine ⟨zq_k_u2 180 (fun z => .getfield z) 277 h rfl (zq_o_180 _) (by decide +kernel), ?_⟩
  replace h := zq_nx3 (q := 4) h rfl
  exact zq_k_n 172 h rfl (zq_o_172 _)
def f_Q_torn_0  (a0 : Nat) (h : mH) : Option (Int32 × mH) :=
  bd1 (gI h a0 0 9) fun x1 =>
  some (x1, h)
set_option maxRecDepth 20000 in
theorem t_Q_torn_0 {sc : Nat × (Nat → Int32)}  (a0 : Nat) (h : mH) (r : Int32) (h' : mH) (hf : f_Q_torn_0  a0 h = some (r, h')) : G sc y_Q_torn prog_1_method_38_code 1 (some .int) 0 0 0 [(0, .ref a0)] [] h (some (.int r)) h' := by
  unfold f_Q_torn_0 at hf
  refine g_aload_n (pc := 0) 0 dd_Q_torn_0.1 rfl rfl ?_
  obtain ⟨x1, e2, hf⟩ := bd1_e hf
  refine g_get (pc := 1) (ci := 0) (kk := 9) dd_Q_torn_0.2.1 rfl in_Q (by decide) wd_305 (gI_spec e2) ?_
  obtain ⟨rfl, rfl⟩ := ret2 hf
  exact g_iret (pc := 4) rfl dd_Q_torn_0.2.2
def f_Q_torn (a0 : Nat) (h : mH) : Option (Int32 × mH) := f_Q_torn_0 a0 h
theorem c_Q_torn {sc : Nat × (Nat → Int32)} {a0 : Nat} {h : mH} {r : Int32} {h' : mH} (hf : f_Q_torn a0 h = some (r, h')) : MM sc y_Q_torn prog_1_method_38_code 1 (some .int) 0 0 [.ref a0] h (some (.int r)) h' :=
  mm_of_G si_pn_Q (Nat.le_of_ble_eq_true rfl) (t_Q_torn_0 _ _ _ _ hf)
/-! Realm brokenInAll ()I -/
set_option maxRecDepth 100000 in
theorem dd_Realm_brokenInAll_0 : (decode prog_5_method_9_code 0 = .ok (.iconst 0, 1)) ∧ (decode prog_5_method_9_code 1 = .ok (.istore_n 1, 1)) ∧ (decode prog_5_method_9_code 2 = .ok (.iconst 0, 1)) ∧ (decode prog_5_method_9_code 3 = .ok (.istore_n 2, 1)) ∧ (decode prog_5_method_9_code 4 = .ok (.iload_n 2, 1)) ∧ (decode prog_5_method_9_code 5 = .ok (.aload_n 0, 1)) ∧ (decode prog_5_method_9_code 6 = .ok (.getfield 59, 3)) ∧ (decode prog_5_method_9_code 9 = .ok (.if_icmp .ge 17, 3)) ∧ (decode prog_5_method_9_code 12 = .ok (.iload_n 1, 1)) ∧ (decode prog_5_method_9_code 13 = .ok (.aload_n 0, 1)) ∧ (decode prog_5_method_9_code 14 = .ok (.iload_n 2, 1)) ∧ (decode prog_5_method_9_code 15 = .ok (.invokevirtual 100, 3)) ∧ (decode prog_5_method_9_code 18 = .ok (.iadd, 1)) ∧ (decode prog_5_method_9_code 19 = .ok (.istore_n 1, 1)) ∧ (decode prog_5_method_9_code 20 = .ok (.iinc 2 1, 3)) ∧ (decode prog_5_method_9_code 23 = .ok (.goto (-19), 3)) ∧ (decode prog_5_method_9_code 26 = .ok (.iload_n 1, 1)) ∧ (decode prog_5_method_9_code 27 = .ok (.ireturn, 1)) := by
  have h : List.drop 0 prog_5_method_9_code.data.toList = 0x03 :: _ := rfl
  refine ⟨zq_k_n 3 h rfl (zq_o_3 _), ?_⟩
  replace h := zq_nx1 (q := 1) h rfl
  refine ⟨zq_k_n 60 h rfl (zq_o_60 _), ?_⟩
  replace h := zq_nx1 (q := 2) h rfl
  refine ⟨zq_k_n 3 h rfl (zq_o_3 _), ?_⟩
  replace h := zq_nx1 (q := 3) h rfl
  refine ⟨zq_k_n 61 h rfl (zq_o_61 _), ?_⟩
  replace h := zq_nx1 (q := 4) h rfl
  refine ⟨zq_k_n 28 h rfl (zq_o_28 _), ?_⟩
  replace h := zq_nx1 (q := 5) h rfl
  refine ⟨zq_k_n 42 h rfl (zq_o_42 _), ?_⟩
  replace h := zq_nx1 (q := 6) h rfl
  refine ⟨zq_k_u2 180 (fun z => .getfield z) 59 h rfl (zq_o_180 _) (by decide +kernel), ?_⟩
  replace h := zq_nx3 (q := 9) h rfl
  refine ⟨zq_k_s2 162 (fun z => .if_icmp .ge z) 17 h rfl (zq_o_162 _) (by decide +kernel), ?_⟩
  replace h := zq_nx3 (q := 12) h rfl
  refine ⟨zq_k_n 27 h rfl (zq_o_27 _), ?_⟩
  replace h := zq_nx1 (q := 13) h rfl
  refine ⟨zq_k_n 42 h rfl (zq_o_42 _), ?_⟩
  replace h := zq_nx1 (q := 14) h rfl
  refine ⟨zq_k_n 28 h rfl (zq_o_28 _), ?_⟩
  replace h := zq_nx1 (q := 15) h rfl
  refine ⟨zq_k_u2 182 (fun z => .invokevirtual z) 100 h rfl (zq_o_182 _) (by decide +kernel), ?_⟩
  replace h := zq_nx3 (q := 18) h rfl
  refine ⟨zq_k_n 96 h rfl (zq_o_96 _), ?_⟩
  replace h := zq_nx1 (q := 19) h rfl
  refine ⟨zq_k_n 60 h rfl (zq_o_60 _), ?_⟩
  replace h := zq_nx1 (q := 20) h rfl
  refine ⟨zq_k_iinc 2 1 h rfl (zq_o_132 _) (by decide +kernel) (by decide +kernel), ?_⟩
  replace h := zq_nx3 (q := 23) h rfl
  refine ⟨zq_k_s2 167 (fun z => .goto z) (-19) h rfl (zq_o_167 _) (by decide +kernel), ?_⟩
  replace h := zq_nx3 (q := 26) h rfl
  refine ⟨zq_k_n 27 h rfl (zq_o_27 _), ?_⟩
  replace h := zq_nx1 (q := 27) h rfl
  exact zq_k_n 172 h rfl (zq_o_172 _)
def f_Realm_brokenInAll_4b (rec4 : Nat → Int32 → Int32 → mH → Option (Int32 × mH)) (b0 : Nat) (b1 : Int32) (b2 : Int32) (h : mH) : Option (Int32 × mH) :=
  bd1 (gI h b0 4 1) fun x1 =>
  if x1 ≤ b2 then
    some (b1, h)
  else
    bd1 (kC h b0 4) fun _ =>
    bd2 (f_Realm_brokenByOne b0 b2 h) fun x7 h5 =>
    rec4 b0 (b1 + x7) (b2 + (1 : Int32)) h5
set_option maxRecDepth 20000 in
theorem t_Realm_brokenInAll_4b {sc : Nat × (Nat → Int32)} (rec4 : Nat → Int32 → Int32 → mH → Option (Int32 × mH)) (hrec4 : ∀ (b0 : Nat) (b1 : Int32) (b2 : Int32) (h : mH) (r : Int32) (h' : mH), rec4 b0 b1 b2 h = some (r, h') → G sc y_Realm_brokenInAll prog_5_method_9_code 3 (some .int) 1 23 4 [(0, .ref b0), (1, .int b1), (2, .int b2)] [] h (some (.int r)) h') (b0 : Nat) (b1 : Int32) (b2 : Int32) (h : mH) (r : Int32) (h' : mH) (hf : f_Realm_brokenInAll_4b rec4 b0 b1 b2 h = some (r, h')) : G sc y_Realm_brokenInAll prog_5_method_9_code 3 (some .int) 1 23 4 [(0, .ref b0), (1, .int b1), (2, .int b2)] [] h (some (.int r)) h' := by
  unfold f_Realm_brokenInAll_4b at hf
  refine g_iload_n (pc := 4) 2 dd_Realm_brokenInAll_0.2.2.2.2.1 rfl rfl ?_
  refine g_aload_n (pc := 5) 0 dd_Realm_brokenInAll_0.2.2.2.2.2.1 rfl rfl ?_
  obtain ⟨x1, e2, hf⟩ := bd1_e hf
  refine g_get (pc := 6) (ci := 4) (kk := 1) dd_Realm_brokenInAll_0.2.2.2.2.2.2.1 rfl in_Realm (by decide) wd_98 (gI_spec e2) ?_
  refine g_icmpge (pc := 9) 26 dd_Realm_brokenInAll_0.2.2.2.2.2.2.2.1 (by decide) (fun c8 => ?_) (fun c8 => ?_)
  · replace hf := (if_pos c8).symm.trans hf
    refine g_iload_n (pc := 26) 1 dd_Realm_brokenInAll_0.2.2.2.2.2.2.2.2.2.2.2.2.2.2.2.2.1 rfl rfl ?_
    obtain ⟨rfl, rfl⟩ := ret2 hf
    exact g_iret (pc := 27) rfl dd_Realm_brokenInAll_0.2.2.2.2.2.2.2.2.2.2.2.2.2.2.2.2.2
  · replace hf := (if_neg c8).symm.trans hf
    refine g_iload_n (pc := 12) 1 dd_Realm_brokenInAll_0.2.2.2.2.2.2.2.2.1 rfl rfl ?_
    refine g_aload_n (pc := 13) 0 dd_Realm_brokenInAll_0.2.2.2.2.2.2.2.2.2.1 rfl rfl ?_
    refine g_iload_n (pc := 14) 2 dd_Realm_brokenInAll_0.2.2.2.2.2.2.2.2.2.2.1 rfl rfl ?_
    obtain ⟨u4, e3, hf⟩ := bd1_e hf
    obtain ⟨x7, h5, e6, hf⟩ := bd2_e hf
    refine g_callV (pc := 15) (ci := 4) [.int b2] (site_of si_Realm_brokenByOne (by decide) (by decide)) wd_562 wd_543 wd_544 dd_Realm_brokenInAll_0.2.2.2.2.2.2.2.2.2.2.2.1 rfl e3 (Nat.le_of_ble_eq_true rfl) (fun z => absurd z si_na_Realm_brokenByOne) (fun z => absurd z si_na_Realm_brokenByOne) (fun z => absurd z si_na_Realm_brokenByOne) (c_Realm_brokenByOne e6) rfl ?_
    refine g_st [.int x7, .int b1] rfl ?_
    refine g_iadd (pc := 18) dd_Realm_brokenInAll_0.2.2.2.2.2.2.2.2.2.2.2.2.1 ?_
    refine g_istore_n (pc := 19) [(1, .int (b1 + x7)), (0, .ref b0), (2, .int b2)] dd_Realm_brokenInAll_0.2.2.2.2.2.2.2.2.2.2.2.2.2.1 rfl (Nat.le_of_ble_eq_true rfl) rfl ?_
    refine g_iinc (pc := 20) 2 (b2 + (1 : Int32)) [(2, .int (b2 + (1 : Int32))), (1, .int (b1 + x7)), (0, .ref b0)] dd_Realm_brokenInAll_0.2.2.2.2.2.2.2.2.2.2.2.2.2.2.1 rfl rfl (Nat.le_of_ble_eq_true rfl) rfl ?_
    refine g_goto (pc := 23) 4 dd_Realm_brokenInAll_0.2.2.2.2.2.2.2.2.2.2.2.2.2.2.2.1 (by decide) ?_
    refine g_lv [2, 1, 0] rfl ?_
    exact hrec4 _ _ _ _ _ _  hf
def f_Realm_brokenInAll_4  : Nat → Nat → Int32 → Int32 → mH → Option (Int32 × mH)
  | 0 => fun _ _ _ _ => none
  | n + 1 => f_Realm_brokenInAll_4b  (f_Realm_brokenInAll_4  n)
theorem t_Realm_brokenInAll_4 {sc : Nat × (Nat → Int32)}  : ∀ (n : Nat) (b0 : Nat) (b1 : Int32) (b2 : Int32) (h : mH) (r : Int32) (h' : mH) (hf : f_Realm_brokenInAll_4  n b0 b1 b2 h = some (r, h')), G sc y_Realm_brokenInAll prog_5_method_9_code 3 (some .int) 1 23 4 [(0, .ref b0), (1, .int b1), (2, .int b2)] [] h (some (.int r)) h'
  | 0, _, _, _, _, _, _, hf => by cases hf
  | n + 1, _, _, _, _, _, _, hf => t_Realm_brokenInAll_4b  (f_Realm_brokenInAll_4  n) (t_Realm_brokenInAll_4  n) _ _ _ _ _ _ hf
def f_Realm_brokenInAll_0  (a0 : Nat) (h : mH) : Option (Int32 × mH) :=
  f_Realm_brokenInAll_4  FU a0 (0 : Int32) (0 : Int32) h
set_option maxRecDepth 20000 in
theorem t_Realm_brokenInAll_0 {sc : Nat × (Nat → Int32)}  (a0 : Nat) (h : mH) (r : Int32) (h' : mH) (hf : f_Realm_brokenInAll_0  a0 h = some (r, h')) : G sc y_Realm_brokenInAll prog_5_method_9_code 3 (some .int) 1 23 0 [(0, .ref a0)] [] h (some (.int r)) h' := by
  unfold f_Realm_brokenInAll_0 at hf
  refine g_iconst (pc := 0) (0 : Int32) dd_Realm_brokenInAll_0.1 (by decide) ?_
  refine g_istore_n (pc := 1) [(1, .int (0 : Int32)), (0, .ref a0)] dd_Realm_brokenInAll_0.2.1 rfl (Nat.le_of_ble_eq_true rfl) rfl ?_
  refine g_iconst (pc := 2) (0 : Int32) dd_Realm_brokenInAll_0.2.2.1 (by decide) ?_
  refine g_istore_n (pc := 3) [(2, .int (0 : Int32)), (1, .int (0 : Int32)), (0, .ref a0)] dd_Realm_brokenInAll_0.2.2.2.1 rfl (Nat.le_of_ble_eq_true rfl) rfl ?_
  refine g_lv [2, 1, 0] rfl ?_
  exact t_Realm_brokenInAll_4  FU _ _ _ _ _ _  hf
def f_Realm_brokenInAll (a0 : Nat) (h : mH) : Option (Int32 × mH) := f_Realm_brokenInAll_0 a0 h
theorem c_Realm_brokenInAll {sc : Nat × (Nat → Int32)} {a0 : Nat} {h : mH} {r : Int32} {h' : mH} (hf : f_Realm_brokenInAll a0 h = some (r, h')) : MM sc y_Realm_brokenInAll prog_5_method_9_code 3 (some .int) 1 23 [.ref a0] h (some (.int r)) h' :=
  mm_of_G si_pn_Realm (Nat.le_of_ble_eq_true rfl) (t_Realm_brokenInAll_0 _ _ _ _ hf)
/-! Q countKept ()I -/
set_option maxRecDepth 100000 in
theorem dd_Q_countKept_0 : (decode prog_1_method_40_code 0 = .ok (.iconst 0, 1)) ∧ (decode prog_1_method_40_code 1 = .ok (.istore_n 1, 1)) ∧ (decode prog_1_method_40_code 2 = .ok (.iconst 0, 1)) ∧ (decode prog_1_method_40_code 3 = .ok (.istore_n 2, 1)) ∧ (decode prog_1_method_40_code 4 = .ok (.iload_n 2, 1)) ∧ (decode prog_1_method_40_code 5 = .ok (.iconst 2, 1)) ∧ (decode prog_1_method_40_code 6 = .ok (.if_icmp .ge 26, 3)) ∧ (decode prog_1_method_40_code 9 = .ok (.iload_n 1, 1)) ∧ (decode prog_1_method_40_code 10 = .ok (.aload_n 0, 1)) ∧ (decode prog_1_method_40_code 11 = .ok (.getfield 30, 3)) ∧ (decode prog_1_method_40_code 14 = .ok (.iload_n 2, 1)) ∧ (decode prog_1_method_40_code 15 = .ok (.baload, 1)) ∧ (decode prog_1_method_40_code 16 = .ok (.ifCond .eq 7, 3)) ∧ (decode prog_1_method_40_code 19 = .ok (.iconst 1, 1)) ∧ (decode prog_1_method_40_code 20 = .ok (.goto 4, 3)) ∧ (decode prog_1_method_40_code 23 = .ok (.iconst 0, 1)) ∧ (decode prog_1_method_40_code 24 = .ok (.iadd, 1)) ∧ (decode prog_1_method_40_code 25 = .ok (.istore_n 1, 1)) ∧ (decode prog_1_method_40_code 26 = .ok (.iinc 2 1, 3)) ∧ (decode prog_1_method_40_code 29 = .ok (.goto (-25), 3)) ∧ (decode prog_1_method_40_code 32 = .ok (.iload_n 1, 1)) ∧ (decode prog_1_method_40_code 33 = .ok (.ireturn, 1)) := by
  have h : List.drop 0 prog_1_method_40_code.data.toList = 0x03 :: _ := rfl
  refine ⟨zq_k_n 3 h rfl (zq_o_3 _), ?_⟩
  replace h := zq_nx1 (q := 1) h rfl
  refine ⟨zq_k_n 60 h rfl (zq_o_60 _), ?_⟩
  replace h := zq_nx1 (q := 2) h rfl
  refine ⟨zq_k_n 3 h rfl (zq_o_3 _), ?_⟩
  replace h := zq_nx1 (q := 3) h rfl
  refine ⟨zq_k_n 61 h rfl (zq_o_61 _), ?_⟩
  replace h := zq_nx1 (q := 4) h rfl
  refine ⟨zq_k_n 28 h rfl (zq_o_28 _), ?_⟩
  replace h := zq_nx1 (q := 5) h rfl
  refine ⟨zq_k_n 5 h rfl (zq_o_5 _), ?_⟩
  replace h := zq_nx1 (q := 6) h rfl
  refine ⟨zq_k_s2 162 (fun z => .if_icmp .ge z) 26 h rfl (zq_o_162 _) (by decide +kernel), ?_⟩
  replace h := zq_nx3 (q := 9) h rfl
  refine ⟨zq_k_n 27 h rfl (zq_o_27 _), ?_⟩
  replace h := zq_nx1 (q := 10) h rfl
  refine ⟨zq_k_n 42 h rfl (zq_o_42 _), ?_⟩
  replace h := zq_nx1 (q := 11) h rfl
  refine ⟨zq_k_u2 180 (fun z => .getfield z) 30 h rfl (zq_o_180 _) (by decide +kernel), ?_⟩
  replace h := zq_nx3 (q := 14) h rfl
  refine ⟨zq_k_n 28 h rfl (zq_o_28 _), ?_⟩
  replace h := zq_nx1 (q := 15) h rfl
  refine ⟨zq_k_n 51 h rfl (zq_o_51 _), ?_⟩
  replace h := zq_nx1 (q := 16) h rfl
  refine ⟨zq_k_s2 153 (fun z => .ifCond .eq z) 7 h rfl (zq_o_153 _) (by decide +kernel), ?_⟩
  replace h := zq_nx3 (q := 19) h rfl
  refine ⟨zq_k_n 4 h rfl (zq_o_4 _), ?_⟩
  replace h := zq_nx1 (q := 20) h rfl
  refine ⟨zq_k_s2 167 (fun z => .goto z) 4 h rfl (zq_o_167 _) (by decide +kernel), ?_⟩
  replace h := zq_nx3 (q := 23) h rfl
  refine ⟨zq_k_n 3 h rfl (zq_o_3 _), ?_⟩
  replace h := zq_nx1 (q := 24) h rfl
  refine ⟨zq_k_n 96 h rfl (zq_o_96 _), ?_⟩
  replace h := zq_nx1 (q := 25) h rfl
  refine ⟨zq_k_n 60 h rfl (zq_o_60 _), ?_⟩
  replace h := zq_nx1 (q := 26) h rfl
  refine ⟨zq_k_iinc 2 1 h rfl (zq_o_132 _) (by decide +kernel) (by decide +kernel), ?_⟩
  replace h := zq_nx3 (q := 29) h rfl
  refine ⟨zq_k_s2 167 (fun z => .goto z) (-25) h rfl (zq_o_167 _) (by decide +kernel), ?_⟩
  replace h := zq_nx3 (q := 32) h rfl
  refine ⟨zq_k_n 27 h rfl (zq_o_27 _), ?_⟩
  replace h := zq_nx1 (q := 33) h rfl
  exact zq_k_n 172 h rfl (zq_o_172 _)
def f_Q_countKept_24 (rec4 : Nat → Int32 → Int32 → mH → Option (Int32 × mH)) (b0 : Nat) (b2 : Int32) (s0 : Int32) (s1 : Int32) (h : mH) : Option (Int32 × mH) :=
  rec4 b0 (s0 + s1) (b2 + (1 : Int32)) h
set_option maxRecDepth 20000 in
theorem t_Q_countKept_24 {sc : Nat × (Nat → Int32)} (rec4 : Nat → Int32 → Int32 → mH → Option (Int32 × mH)) (hrec4 : ∀ (b0 : Nat) (b1 : Int32) (b2 : Int32) (h : mH) (r : Int32) (h' : mH), rec4 b0 b1 b2 h = some (r, h') → G sc y_Q_countKept prog_1_method_40_code 3 (some .int) 0 0 4 [(0, .ref b0), (1, .int b1), (2, .int b2)] [] h (some (.int r)) h') (b0 : Nat) (b2 : Int32) (s0 : Int32) (s1 : Int32) (h : mH) (r : Int32) (h' : mH) (hf : f_Q_countKept_24 rec4 b0 b2 s0 s1 h = some (r, h')) : G sc y_Q_countKept prog_1_method_40_code 3 (some .int) 0 0 24 [(0, .ref b0), (2, .int b2)] [.int s1, .int s0] h (some (.int r)) h' := by
  unfold f_Q_countKept_24 at hf
  refine g_iadd (pc := 24) dd_Q_countKept_0.2.2.2.2.2.2.2.2.2.2.2.2.2.2.2.2.1 ?_
  refine g_istore_n (pc := 25) [(1, .int (s0 + s1)), (0, .ref b0), (2, .int b2)] dd_Q_countKept_0.2.2.2.2.2.2.2.2.2.2.2.2.2.2.2.2.2.1 rfl (Nat.le_of_ble_eq_true rfl) rfl ?_
  refine g_iinc (pc := 26) 2 (b2 + (1 : Int32)) [(2, .int (b2 + (1 : Int32))), (1, .int (s0 + s1)), (0, .ref b0)] dd_Q_countKept_0.2.2.2.2.2.2.2.2.2.2.2.2.2.2.2.2.2.2.1 rfl rfl (Nat.le_of_ble_eq_true rfl) rfl ?_
  refine g_goto (pc := 29) 4 dd_Q_countKept_0.2.2.2.2.2.2.2.2.2.2.2.2.2.2.2.2.2.2.2.1 (by decide) ?_
  refine g_lv [2, 1, 0] rfl ?_
  exact hrec4 _ _ _ _ _ _  hf
def f_Q_countKept_4b (rec4 : Nat → Int32 → Int32 → mH → Option (Int32 × mH)) (b0 : Nat) (b1 : Int32) (b2 : Int32) (h : mH) : Option (Int32 × mH) :=
  if (2 : Int32) ≤ b2 then
    some (b1, h)
  else
    bd1 (gR h b0 0 4) fun x1 =>
    bd1 (aI h 2 x1 b2) fun x3 =>
    if x3 = 0 then
      f_Q_countKept_24 rec4 b0 b2 b1 (0 : Int32) h
    else
      f_Q_countKept_24 rec4 b0 b2 b1 (1 : Int32) h
set_option maxRecDepth 20000 in
theorem t_Q_countKept_4b {sc : Nat × (Nat → Int32)} (rec4 : Nat → Int32 → Int32 → mH → Option (Int32 × mH)) (hrec4 : ∀ (b0 : Nat) (b1 : Int32) (b2 : Int32) (h : mH) (r : Int32) (h' : mH), rec4 b0 b1 b2 h = some (r, h') → G sc y_Q_countKept prog_1_method_40_code 3 (some .int) 0 0 4 [(0, .ref b0), (1, .int b1), (2, .int b2)] [] h (some (.int r)) h') (b0 : Nat) (b1 : Int32) (b2 : Int32) (h : mH) (r : Int32) (h' : mH) (hf : f_Q_countKept_4b rec4 b0 b1 b2 h = some (r, h')) : G sc y_Q_countKept prog_1_method_40_code 3 (some .int) 0 0 4 [(0, .ref b0), (1, .int b1), (2, .int b2)] [] h (some (.int r)) h' := by
  unfold f_Q_countKept_4b at hf
  refine g_iload_n (pc := 4) 2 dd_Q_countKept_0.2.2.2.2.1 rfl rfl ?_
  refine g_iconst (pc := 5) (2 : Int32) dd_Q_countKept_0.2.2.2.2.2.1 (by decide) ?_
  refine g_icmpge (pc := 6) 32 dd_Q_countKept_0.2.2.2.2.2.2.1 (by decide) (fun c6 => ?_) (fun c6 => ?_)
  · replace hf := (if_pos c6).symm.trans hf
    refine g_iload_n (pc := 32) 1 dd_Q_countKept_0.2.2.2.2.2.2.2.2.2.2.2.2.2.2.2.2.2.2.2.2.1 rfl rfl ?_
    obtain ⟨rfl, rfl⟩ := ret2 hf
    exact g_iret (pc := 33) rfl dd_Q_countKept_0.2.2.2.2.2.2.2.2.2.2.2.2.2.2.2.2.2.2.2.2.2
  · replace hf := (if_neg c6).symm.trans hf
    refine g_iload_n (pc := 9) 1 dd_Q_countKept_0.2.2.2.2.2.2.2.1 rfl rfl ?_
    refine g_aload_n (pc := 10) 0 dd_Q_countKept_0.2.2.2.2.2.2.2.2.1 rfl rfl ?_
    obtain ⟨x1, e2, hf⟩ := bd1_e hf
    refine g_get (pc := 11) (ci := 0) (kk := 4) dd_Q_countKept_0.2.2.2.2.2.2.2.2.2.1 rfl in_Q (by decide) wd_300 (gR_spec e2) ?_
    refine g_iload_n (pc := 14) 2 dd_Q_countKept_0.2.2.2.2.2.2.2.2.2.2.1 rfl rfl ?_
    obtain ⟨x3, e4, hf⟩ := bd1_e hf
    refine g_zald (pc := 15) dd_Q_countKept_0.2.2.2.2.2.2.2.2.2.2.2.1 e4 ?_
    refine g_ifeq (pc := 16) 23 dd_Q_countKept_0.2.2.2.2.2.2.2.2.2.2.2.2.1 (by decide) (fun c5 => ?_) (fun c5 => ?_)
    · replace hf := (if_pos c5).symm.trans hf
      refine g_iconst (pc := 23) (0 : Int32) dd_Q_countKept_0.2.2.2.2.2.2.2.2.2.2.2.2.2.2.2.1 (by decide) ?_
      refine g_lv [0, 2] rfl ?_
      exact t_Q_countKept_24 rec4 hrec4 _ _ _ _ _ _ _  hf
    · replace hf := (if_neg c5).symm.trans hf
      refine g_iconst (pc := 19) (1 : Int32) dd_Q_countKept_0.2.2.2.2.2.2.2.2.2.2.2.2.2.1 (by decide) ?_
      refine g_goto (pc := 20) 24 dd_Q_countKept_0.2.2.2.2.2.2.2.2.2.2.2.2.2.2.1 (by decide) ?_
      refine g_lv [0, 2] rfl ?_
      exact t_Q_countKept_24 rec4 hrec4 _ _ _ _ _ _ _  hf
def f_Q_countKept_4  : Nat → Nat → Int32 → Int32 → mH → Option (Int32 × mH)
  | 0 => fun _ _ _ _ => none
  | n + 1 => f_Q_countKept_4b  (f_Q_countKept_4  n)
theorem t_Q_countKept_4 {sc : Nat × (Nat → Int32)}  : ∀ (n : Nat) (b0 : Nat) (b1 : Int32) (b2 : Int32) (h : mH) (r : Int32) (h' : mH) (hf : f_Q_countKept_4  n b0 b1 b2 h = some (r, h')), G sc y_Q_countKept prog_1_method_40_code 3 (some .int) 0 0 4 [(0, .ref b0), (1, .int b1), (2, .int b2)] [] h (some (.int r)) h'
  | 0, _, _, _, _, _, _, hf => by cases hf
  | n + 1, _, _, _, _, _, _, hf => t_Q_countKept_4b  (f_Q_countKept_4  n) (t_Q_countKept_4  n) _ _ _ _ _ _ hf
def f_Q_countKept_0  (a0 : Nat) (h : mH) : Option (Int32 × mH) :=
  f_Q_countKept_4  FU a0 (0 : Int32) (0 : Int32) h
set_option maxRecDepth 20000 in
theorem t_Q_countKept_0 {sc : Nat × (Nat → Int32)}  (a0 : Nat) (h : mH) (r : Int32) (h' : mH) (hf : f_Q_countKept_0  a0 h = some (r, h')) : G sc y_Q_countKept prog_1_method_40_code 3 (some .int) 0 0 0 [(0, .ref a0)] [] h (some (.int r)) h' := by
  unfold f_Q_countKept_0 at hf
  refine g_iconst (pc := 0) (0 : Int32) dd_Q_countKept_0.1 (by decide) ?_
  refine g_istore_n (pc := 1) [(1, .int (0 : Int32)), (0, .ref a0)] dd_Q_countKept_0.2.1 rfl (Nat.le_of_ble_eq_true rfl) rfl ?_
  refine g_iconst (pc := 2) (0 : Int32) dd_Q_countKept_0.2.2.1 (by decide) ?_
  refine g_istore_n (pc := 3) [(2, .int (0 : Int32)), (1, .int (0 : Int32)), (0, .ref a0)] dd_Q_countKept_0.2.2.2.1 rfl (Nat.le_of_ble_eq_true rfl) rfl ?_
  refine g_lv [2, 1, 0] rfl ?_
  exact t_Q_countKept_4  FU _ _ _ _ _ _  hf
def f_Q_countKept (a0 : Nat) (h : mH) : Option (Int32 × mH) := f_Q_countKept_0 a0 h
theorem c_Q_countKept {sc : Nat × (Nat → Int32)} {a0 : Nat} {h : mH} {r : Int32} {h' : mH} (hf : f_Q_countKept a0 h = some (r, h')) : MM sc y_Q_countKept prog_1_method_40_code 3 (some .int) 0 0 [.ref a0] h (some (.int r)) h' :=
  mm_of_G si_pn_Q (Nat.le_of_ble_eq_true rfl) (t_Q_countKept_0 _ _ _ _ hf)
/-! Realm allPurses ()I -/
set_option maxRecDepth 100000 in
theorem dd_Realm_allPurses_0 : (decode prog_5_method_12_code 0 = .ok (.iconst 0, 1)) ∧ (decode prog_5_method_12_code 1 = .ok (.istore_n 1, 1)) ∧ (decode prog_5_method_12_code 2 = .ok (.iconst 0, 1)) ∧ (decode prog_5_method_12_code 3 = .ok (.istore_n 2, 1)) ∧ (decode prog_5_method_12_code 4 = .ok (.iload_n 2, 1)) ∧ (decode prog_5_method_12_code 5 = .ok (.aload_n 0, 1)) ∧ (decode prog_5_method_12_code 6 = .ok (.getfield 59, 3)) ∧ (decode prog_5_method_12_code 9 = .ok (.if_icmp .ge 18, 3)) ∧ (decode prog_5_method_12_code 12 = .ok (.iload_n 1, 1)) ∧ (decode prog_5_method_12_code 13 = .ok (.aload_n 0, 1)) ∧ (decode prog_5_method_12_code 14 = .ok (.getfield 36, 3)) ∧ (decode prog_5_method_12_code 17 = .ok (.iload_n 2, 1)) ∧ (decode prog_5_method_12_code 18 = .ok (.iaload, 1)) ∧ (decode prog_5_method_12_code 19 = .ok (.iadd, 1)) ∧ (decode prog_5_method_12_code 20 = .ok (.istore_n 1, 1)) ∧ (decode prog_5_method_12_code 21 = .ok (.iinc 2 1, 3)) ∧ (decode prog_5_method_12_code 24 = .ok (.goto (-20), 3)) ∧ (decode prog_5_method_12_code 27 = .ok (.iload_n 1, 1)) ∧ (decode prog_5_method_12_code 28 = .ok (.ireturn, 1)) := by
  have h : List.drop 0 prog_5_method_12_code.data.toList = 0x03 :: _ := rfl
  refine ⟨zq_k_n 3 h rfl (zq_o_3 _), ?_⟩
  replace h := zq_nx1 (q := 1) h rfl
  refine ⟨zq_k_n 60 h rfl (zq_o_60 _), ?_⟩
  replace h := zq_nx1 (q := 2) h rfl
  refine ⟨zq_k_n 3 h rfl (zq_o_3 _), ?_⟩
  replace h := zq_nx1 (q := 3) h rfl
  refine ⟨zq_k_n 61 h rfl (zq_o_61 _), ?_⟩
  replace h := zq_nx1 (q := 4) h rfl
  refine ⟨zq_k_n 28 h rfl (zq_o_28 _), ?_⟩
  replace h := zq_nx1 (q := 5) h rfl
  refine ⟨zq_k_n 42 h rfl (zq_o_42 _), ?_⟩
  replace h := zq_nx1 (q := 6) h rfl
  refine ⟨zq_k_u2 180 (fun z => .getfield z) 59 h rfl (zq_o_180 _) (by decide +kernel), ?_⟩
  replace h := zq_nx3 (q := 9) h rfl
  refine ⟨zq_k_s2 162 (fun z => .if_icmp .ge z) 18 h rfl (zq_o_162 _) (by decide +kernel), ?_⟩
  replace h := zq_nx3 (q := 12) h rfl
  refine ⟨zq_k_n 27 h rfl (zq_o_27 _), ?_⟩
  replace h := zq_nx1 (q := 13) h rfl
  refine ⟨zq_k_n 42 h rfl (zq_o_42 _), ?_⟩
  replace h := zq_nx1 (q := 14) h rfl
  refine ⟨zq_k_u2 180 (fun z => .getfield z) 36 h rfl (zq_o_180 _) (by decide +kernel), ?_⟩
  replace h := zq_nx3 (q := 17) h rfl
  refine ⟨zq_k_n 28 h rfl (zq_o_28 _), ?_⟩
  replace h := zq_nx1 (q := 18) h rfl
  refine ⟨zq_k_n 46 h rfl (zq_o_46 _), ?_⟩
  replace h := zq_nx1 (q := 19) h rfl
  refine ⟨zq_k_n 96 h rfl (zq_o_96 _), ?_⟩
  replace h := zq_nx1 (q := 20) h rfl
  refine ⟨zq_k_n 60 h rfl (zq_o_60 _), ?_⟩
  replace h := zq_nx1 (q := 21) h rfl
  refine ⟨zq_k_iinc 2 1 h rfl (zq_o_132 _) (by decide +kernel) (by decide +kernel), ?_⟩
  replace h := zq_nx3 (q := 24) h rfl
  refine ⟨zq_k_s2 167 (fun z => .goto z) (-20) h rfl (zq_o_167 _) (by decide +kernel), ?_⟩
  replace h := zq_nx3 (q := 27) h rfl
  refine ⟨zq_k_n 27 h rfl (zq_o_27 _), ?_⟩
  replace h := zq_nx1 (q := 28) h rfl
  exact zq_k_n 172 h rfl (zq_o_172 _)
def f_Realm_allPurses_4b (rec4 : Nat → Int32 → Int32 → mH → Option (Int32 × mH)) (b0 : Nat) (b1 : Int32) (b2 : Int32) (h : mH) : Option (Int32 × mH) :=
  bd1 (gI h b0 4 1) fun x1 =>
  if x1 ≤ b2 then
    some (b1, h)
  else
    bd1 (gR h b0 4 14) fun x3 =>
    bd1 (aI h 0 x3 b2) fun x5 =>
    rec4 b0 (b1 + x5) (b2 + (1 : Int32)) h
set_option maxRecDepth 20000 in
theorem t_Realm_allPurses_4b {sc : Nat × (Nat → Int32)} (rec4 : Nat → Int32 → Int32 → mH → Option (Int32 × mH)) (hrec4 : ∀ (b0 : Nat) (b1 : Int32) (b2 : Int32) (h : mH) (r : Int32) (h' : mH), rec4 b0 b1 b2 h = some (r, h') → G sc y_Realm_allPurses prog_5_method_12_code 3 (some .int) 0 0 4 [(0, .ref b0), (1, .int b1), (2, .int b2)] [] h (some (.int r)) h') (b0 : Nat) (b1 : Int32) (b2 : Int32) (h : mH) (r : Int32) (h' : mH) (hf : f_Realm_allPurses_4b rec4 b0 b1 b2 h = some (r, h')) : G sc y_Realm_allPurses prog_5_method_12_code 3 (some .int) 0 0 4 [(0, .ref b0), (1, .int b1), (2, .int b2)] [] h (some (.int r)) h' := by
  unfold f_Realm_allPurses_4b at hf
  refine g_iload_n (pc := 4) 2 dd_Realm_allPurses_0.2.2.2.2.1 rfl rfl ?_
  refine g_aload_n (pc := 5) 0 dd_Realm_allPurses_0.2.2.2.2.2.1 rfl rfl ?_
  obtain ⟨x1, e2, hf⟩ := bd1_e hf
  refine g_get (pc := 6) (ci := 4) (kk := 1) dd_Realm_allPurses_0.2.2.2.2.2.2.1 rfl in_Realm (by decide) wd_98 (gI_spec e2) ?_
  refine g_icmpge (pc := 9) 27 dd_Realm_allPurses_0.2.2.2.2.2.2.2.1 (by decide) (fun c7 => ?_) (fun c7 => ?_)
  · replace hf := (if_pos c7).symm.trans hf
    refine g_iload_n (pc := 27) 1 dd_Realm_allPurses_0.2.2.2.2.2.2.2.2.2.2.2.2.2.2.2.2.2.1 rfl rfl ?_
    obtain ⟨rfl, rfl⟩ := ret2 hf
    exact g_iret (pc := 28) rfl dd_Realm_allPurses_0.2.2.2.2.2.2.2.2.2.2.2.2.2.2.2.2.2.2
  · replace hf := (if_neg c7).symm.trans hf
    refine g_iload_n (pc := 12) 1 dd_Realm_allPurses_0.2.2.2.2.2.2.2.2.1 rfl rfl ?_
    refine g_aload_n (pc := 13) 0 dd_Realm_allPurses_0.2.2.2.2.2.2.2.2.2.1 rfl rfl ?_
    obtain ⟨x3, e4, hf⟩ := bd1_e hf
    refine g_get (pc := 14) (ci := 4) (kk := 14) dd_Realm_allPurses_0.2.2.2.2.2.2.2.2.2.2.1 rfl in_Realm (by decide) wd_142 (gR_spec e4) ?_
    refine g_iload_n (pc := 17) 2 dd_Realm_allPurses_0.2.2.2.2.2.2.2.2.2.2.2.1 rfl rfl ?_
    obtain ⟨x5, e6, hf⟩ := bd1_e hf
    refine g_iald (pc := 18) dd_Realm_allPurses_0.2.2.2.2.2.2.2.2.2.2.2.2.1 e6 ?_
    refine g_iadd (pc := 19) dd_Realm_allPurses_0.2.2.2.2.2.2.2.2.2.2.2.2.2.1 ?_
    refine g_istore_n (pc := 20) [(1, .int (b1 + x5)), (0, .ref b0), (2, .int b2)] dd_Realm_allPurses_0.2.2.2.2.2.2.2.2.2.2.2.2.2.2.1 rfl (Nat.le_of_ble_eq_true rfl) rfl ?_
    refine g_iinc (pc := 21) 2 (b2 + (1 : Int32)) [(2, .int (b2 + (1 : Int32))), (1, .int (b1 + x5)), (0, .ref b0)] dd_Realm_allPurses_0.2.2.2.2.2.2.2.2.2.2.2.2.2.2.2.1 rfl rfl (Nat.le_of_ble_eq_true rfl) rfl ?_
    refine g_goto (pc := 24) 4 dd_Realm_allPurses_0.2.2.2.2.2.2.2.2.2.2.2.2.2.2.2.2.1 (by decide) ?_
    refine g_lv [2, 1, 0] rfl ?_
    exact hrec4 _ _ _ _ _ _  hf
def f_Realm_allPurses_4  : Nat → Nat → Int32 → Int32 → mH → Option (Int32 × mH)
  | 0 => fun _ _ _ _ => none
  | n + 1 => f_Realm_allPurses_4b  (f_Realm_allPurses_4  n)
theorem t_Realm_allPurses_4 {sc : Nat × (Nat → Int32)}  : ∀ (n : Nat) (b0 : Nat) (b1 : Int32) (b2 : Int32) (h : mH) (r : Int32) (h' : mH) (hf : f_Realm_allPurses_4  n b0 b1 b2 h = some (r, h')), G sc y_Realm_allPurses prog_5_method_12_code 3 (some .int) 0 0 4 [(0, .ref b0), (1, .int b1), (2, .int b2)] [] h (some (.int r)) h'
  | 0, _, _, _, _, _, _, hf => by cases hf
  | n + 1, _, _, _, _, _, _, hf => t_Realm_allPurses_4b  (f_Realm_allPurses_4  n) (t_Realm_allPurses_4  n) _ _ _ _ _ _ hf
def f_Realm_allPurses_0  (a0 : Nat) (h : mH) : Option (Int32 × mH) :=
  f_Realm_allPurses_4  FU a0 (0 : Int32) (0 : Int32) h
set_option maxRecDepth 20000 in
theorem t_Realm_allPurses_0 {sc : Nat × (Nat → Int32)}  (a0 : Nat) (h : mH) (r : Int32) (h' : mH) (hf : f_Realm_allPurses_0  a0 h = some (r, h')) : G sc y_Realm_allPurses prog_5_method_12_code 3 (some .int) 0 0 0 [(0, .ref a0)] [] h (some (.int r)) h' := by
  unfold f_Realm_allPurses_0 at hf
  refine g_iconst (pc := 0) (0 : Int32) dd_Realm_allPurses_0.1 (by decide) ?_
  refine g_istore_n (pc := 1) [(1, .int (0 : Int32)), (0, .ref a0)] dd_Realm_allPurses_0.2.1 rfl (Nat.le_of_ble_eq_true rfl) rfl ?_
  refine g_iconst (pc := 2) (0 : Int32) dd_Realm_allPurses_0.2.2.1 (by decide) ?_
  refine g_istore_n (pc := 3) [(2, .int (0 : Int32)), (1, .int (0 : Int32)), (0, .ref a0)] dd_Realm_allPurses_0.2.2.2.1 rfl (Nat.le_of_ble_eq_true rfl) rfl ?_
  refine g_lv [2, 1, 0] rfl ?_
  exact t_Realm_allPurses_4  FU _ _ _ _ _ _  hf
def f_Realm_allPurses (a0 : Nat) (h : mH) : Option (Int32 × mH) := f_Realm_allPurses_0 a0 h
theorem c_Realm_allPurses {sc : Nat × (Nat → Int32)} {a0 : Nat} {h : mH} {r : Int32} {h' : mH} (hf : f_Realm_allPurses a0 h = some (r, h')) : MM sc y_Realm_allPurses prog_5_method_12_code 3 (some .int) 0 0 [.ref a0] h (some (.int r)) h' :=
  mm_of_G si_pn_Realm (Nat.le_of_ble_eq_true rfl) (t_Realm_allPurses_0 _ _ _ _ hf)
/-! Realm allNeed ()I -/
set_option maxRecDepth 100000 in
theorem dd_Realm_allNeed_0 : (decode prog_5_method_11_code 0 = .ok (.iconst 0, 1)) ∧ (decode prog_5_method_11_code 1 = .ok (.istore_n 1, 1)) ∧ (decode prog_5_method_11_code 2 = .ok (.iconst 0, 1)) ∧ (decode prog_5_method_11_code 3 = .ok (.istore_n 2, 1)) ∧ (decode prog_5_method_11_code 4 = .ok (.iload_n 2, 1)) ∧ (decode prog_5_method_11_code 5 = .ok (.aload_n 0, 1)) ∧ (decode prog_5_method_11_code 6 = .ok (.getfield 55, 3)) ∧ (decode prog_5_method_11_code 9 = .ok (.if_icmp .ge 17, 3)) ∧ (decode prog_5_method_11_code 12 = .ok (.iload_n 1, 1)) ∧ (decode prog_5_method_11_code 13 = .ok (.aload_n 0, 1)) ∧ (decode prog_5_method_11_code 14 = .ok (.iload_n 2, 1)) ∧ (decode prog_5_method_11_code 15 = .ok (.invokevirtual 117, 3)) ∧ (decode prog_5_method_11_code 18 = .ok (.iadd, 1)) ∧ (decode prog_5_method_11_code 19 = .ok (.istore_n 1, 1)) ∧ (decode prog_5_method_11_code 20 = .ok (.iinc 2 1, 3)) ∧ (decode prog_5_method_11_code 23 = .ok (.goto (-19), 3)) ∧ (decode prog_5_method_11_code 26 = .ok (.iload_n 1, 1)) ∧ (decode prog_5_method_11_code 27 = .ok (.ireturn, 1)) := by
  have h : List.drop 0 prog_5_method_11_code.data.toList = 0x03 :: _ := rfl
  refine ⟨zq_k_n 3 h rfl (zq_o_3 _), ?_⟩
  replace h := zq_nx1 (q := 1) h rfl
  refine ⟨zq_k_n 60 h rfl (zq_o_60 _), ?_⟩
  replace h := zq_nx1 (q := 2) h rfl
  refine ⟨zq_k_n 3 h rfl (zq_o_3 _), ?_⟩
  replace h := zq_nx1 (q := 3) h rfl
  refine ⟨zq_k_n 61 h rfl (zq_o_61 _), ?_⟩
  replace h := zq_nx1 (q := 4) h rfl
  refine ⟨zq_k_n 28 h rfl (zq_o_28 _), ?_⟩
  replace h := zq_nx1 (q := 5) h rfl
  refine ⟨zq_k_n 42 h rfl (zq_o_42 _), ?_⟩
  replace h := zq_nx1 (q := 6) h rfl
  refine ⟨zq_k_u2 180 (fun z => .getfield z) 55 h rfl (zq_o_180 _) (by decide +kernel), ?_⟩
  replace h := zq_nx3 (q := 9) h rfl
  refine ⟨zq_k_s2 162 (fun z => .if_icmp .ge z) 17 h rfl (zq_o_162 _) (by decide +kernel), ?_⟩
  replace h := zq_nx3 (q := 12) h rfl
  refine ⟨zq_k_n 27 h rfl (zq_o_27 _), ?_⟩
  replace h := zq_nx1 (q := 13) h rfl
  refine ⟨zq_k_n 42 h rfl (zq_o_42 _), ?_⟩
  replace h := zq_nx1 (q := 14) h rfl
  refine ⟨zq_k_n 28 h rfl (zq_o_28 _), ?_⟩
  replace h := zq_nx1 (q := 15) h rfl
  refine ⟨zq_k_u2 182 (fun z => .invokevirtual z) 117 h rfl (zq_o_182 _) (by decide +kernel), ?_⟩
  replace h := zq_nx3 (q := 18) h rfl
  refine ⟨zq_k_n 96 h rfl (zq_o_96 _), ?_⟩
  replace h := zq_nx1 (q := 19) h rfl
  refine ⟨zq_k_n 60 h rfl (zq_o_60 _), ?_⟩
  replace h := zq_nx1 (q := 20) h rfl
  refine ⟨zq_k_iinc 2 1 h rfl (zq_o_132 _) (by decide +kernel) (by decide +kernel), ?_⟩
  replace h := zq_nx3 (q := 23) h rfl
  refine ⟨zq_k_s2 167 (fun z => .goto z) (-19) h rfl (zq_o_167 _) (by decide +kernel), ?_⟩
  replace h := zq_nx3 (q := 26) h rfl
  refine ⟨zq_k_n 27 h rfl (zq_o_27 _), ?_⟩
  replace h := zq_nx1 (q := 27) h rfl
  exact zq_k_n 172 h rfl (zq_o_172 _)
def f_Realm_allNeed_4b (rec4 : Nat → Int32 → Int32 → mH → Option (Int32 × mH)) (b0 : Nat) (b1 : Int32) (b2 : Int32) (h : mH) : Option (Int32 × mH) :=
  bd1 (gI h b0 4 0) fun x1 =>
  if x1 ≤ b2 then
    some (b1, h)
  else
    bd1 (kC h b0 4) fun _ =>
    bd2 (f_Realm_needOf b0 b2 h) fun x7 h5 =>
    rec4 b0 (b1 + x7) (b2 + (1 : Int32)) h5
set_option maxRecDepth 20000 in
theorem t_Realm_allNeed_4b {sc : Nat × (Nat → Int32)} (rec4 : Nat → Int32 → Int32 → mH → Option (Int32 × mH)) (hrec4 : ∀ (b0 : Nat) (b1 : Int32) (b2 : Int32) (h : mH) (r : Int32) (h' : mH), rec4 b0 b1 b2 h = some (r, h') → G sc y_Realm_allNeed prog_5_method_11_code 3 (some .int) 2 45 4 [(0, .ref b0), (1, .int b1), (2, .int b2)] [] h (some (.int r)) h') (b0 : Nat) (b1 : Int32) (b2 : Int32) (h : mH) (r : Int32) (h' : mH) (hf : f_Realm_allNeed_4b rec4 b0 b1 b2 h = some (r, h')) : G sc y_Realm_allNeed prog_5_method_11_code 3 (some .int) 2 45 4 [(0, .ref b0), (1, .int b1), (2, .int b2)] [] h (some (.int r)) h' := by
  unfold f_Realm_allNeed_4b at hf
  refine g_iload_n (pc := 4) 2 dd_Realm_allNeed_0.2.2.2.2.1 rfl rfl ?_
  refine g_aload_n (pc := 5) 0 dd_Realm_allNeed_0.2.2.2.2.2.1 rfl rfl ?_
  obtain ⟨x1, e2, hf⟩ := bd1_e hf
  refine g_get (pc := 6) (ci := 4) (kk := 0) dd_Realm_allNeed_0.2.2.2.2.2.2.1 rfl in_Realm (by decide) wd_93 (gI_spec e2) ?_
  refine g_icmpge (pc := 9) 26 dd_Realm_allNeed_0.2.2.2.2.2.2.2.1 (by decide) (fun c8 => ?_) (fun c8 => ?_)
  · replace hf := (if_pos c8).symm.trans hf
    refine g_iload_n (pc := 26) 1 dd_Realm_allNeed_0.2.2.2.2.2.2.2.2.2.2.2.2.2.2.2.2.1 rfl rfl ?_
    obtain ⟨rfl, rfl⟩ := ret2 hf
    exact g_iret (pc := 27) rfl dd_Realm_allNeed_0.2.2.2.2.2.2.2.2.2.2.2.2.2.2.2.2.2
  · replace hf := (if_neg c8).symm.trans hf
    refine g_iload_n (pc := 12) 1 dd_Realm_allNeed_0.2.2.2.2.2.2.2.2.1 rfl rfl ?_
    refine g_aload_n (pc := 13) 0 dd_Realm_allNeed_0.2.2.2.2.2.2.2.2.2.1 rfl rfl ?_
    refine g_iload_n (pc := 14) 2 dd_Realm_allNeed_0.2.2.2.2.2.2.2.2.2.2.1 rfl rfl ?_
    obtain ⟨u4, e3, hf⟩ := bd1_e hf
    obtain ⟨x7, h5, e6, hf⟩ := bd2_e hf
    refine g_callV (pc := 15) (ci := 4) [.int b2] (site_of si_Realm_needOf (by decide) (by decide)) wd_646 wd_521 wd_522 dd_Realm_allNeed_0.2.2.2.2.2.2.2.2.2.2.2.1 rfl e3 (Nat.le_of_ble_eq_true rfl) (fun z => absurd z si_na_Realm_needOf) (fun z => absurd z si_na_Realm_needOf) (fun z => absurd z si_na_Realm_needOf) (c_Realm_needOf e6) rfl ?_
    refine g_st [.int x7, .int b1] rfl ?_
    refine g_iadd (pc := 18) dd_Realm_allNeed_0.2.2.2.2.2.2.2.2.2.2.2.2.1 ?_
    refine g_istore_n (pc := 19) [(1, .int (b1 + x7)), (0, .ref b0), (2, .int b2)] dd_Realm_allNeed_0.2.2.2.2.2.2.2.2.2.2.2.2.2.1 rfl (Nat.le_of_ble_eq_true rfl) rfl ?_
    refine g_iinc (pc := 20) 2 (b2 + (1 : Int32)) [(2, .int (b2 + (1 : Int32))), (1, .int (b1 + x7)), (0, .ref b0)] dd_Realm_allNeed_0.2.2.2.2.2.2.2.2.2.2.2.2.2.2.1 rfl rfl (Nat.le_of_ble_eq_true rfl) rfl ?_
    refine g_goto (pc := 23) 4 dd_Realm_allNeed_0.2.2.2.2.2.2.2.2.2.2.2.2.2.2.2.1 (by decide) ?_
    refine g_lv [2, 1, 0] rfl ?_
    exact hrec4 _ _ _ _ _ _  hf
def f_Realm_allNeed_4  : Nat → Nat → Int32 → Int32 → mH → Option (Int32 × mH)
  | 0 => fun _ _ _ _ => none
  | n + 1 => f_Realm_allNeed_4b  (f_Realm_allNeed_4  n)
theorem t_Realm_allNeed_4 {sc : Nat × (Nat → Int32)}  : ∀ (n : Nat) (b0 : Nat) (b1 : Int32) (b2 : Int32) (h : mH) (r : Int32) (h' : mH) (hf : f_Realm_allNeed_4  n b0 b1 b2 h = some (r, h')), G sc y_Realm_allNeed prog_5_method_11_code 3 (some .int) 2 45 4 [(0, .ref b0), (1, .int b1), (2, .int b2)] [] h (some (.int r)) h'
  | 0, _, _, _, _, _, _, hf => by cases hf
  | n + 1, _, _, _, _, _, _, hf => t_Realm_allNeed_4b  (f_Realm_allNeed_4  n) (t_Realm_allNeed_4  n) _ _ _ _ _ _ hf
def f_Realm_allNeed_0  (a0 : Nat) (h : mH) : Option (Int32 × mH) :=
  f_Realm_allNeed_4  FU a0 (0 : Int32) (0 : Int32) h
set_option maxRecDepth 20000 in
theorem t_Realm_allNeed_0 {sc : Nat × (Nat → Int32)}  (a0 : Nat) (h : mH) (r : Int32) (h' : mH) (hf : f_Realm_allNeed_0  a0 h = some (r, h')) : G sc y_Realm_allNeed prog_5_method_11_code 3 (some .int) 2 45 0 [(0, .ref a0)] [] h (some (.int r)) h' := by
  unfold f_Realm_allNeed_0 at hf
  refine g_iconst (pc := 0) (0 : Int32) dd_Realm_allNeed_0.1 (by decide) ?_
  refine g_istore_n (pc := 1) [(1, .int (0 : Int32)), (0, .ref a0)] dd_Realm_allNeed_0.2.1 rfl (Nat.le_of_ble_eq_true rfl) rfl ?_
  refine g_iconst (pc := 2) (0 : Int32) dd_Realm_allNeed_0.2.2.1 (by decide) ?_
  refine g_istore_n (pc := 3) [(2, .int (0 : Int32)), (1, .int (0 : Int32)), (0, .ref a0)] dd_Realm_allNeed_0.2.2.2.1 rfl (Nat.le_of_ble_eq_true rfl) rfl ?_
  refine g_lv [2, 1, 0] rfl ?_
  exact t_Realm_allNeed_4  FU _ _ _ _ _ _  hf
def f_Realm_allNeed (a0 : Nat) (h : mH) : Option (Int32 × mH) := f_Realm_allNeed_0 a0 h
theorem c_Realm_allNeed {sc : Nat × (Nat → Int32)} {a0 : Nat} {h : mH} {r : Int32} {h' : mH} (hf : f_Realm_allNeed a0 h = some (r, h')) : MM sc y_Realm_allNeed prog_5_method_11_code 3 (some .int) 2 45 [.ref a0] h (some (.int r)) h' :=
  mm_of_G si_pn_Realm (Nat.le_of_ble_eq_true rfl) (t_Realm_allNeed_0 _ _ _ _ hf)
end
/-! 35.own -/
section
/-! Q count (I)I -/
set_option maxRecDepth 100000 in
theorem dd_Q_count_0 : (decode prog_1_method_39_code 0 = .ok (.iload_n 1, 1)) ∧ (decode prog_1_method_39_code 1 = .ok (.tableswitch 116 0 7 #[47, 58, 66, 77, 82, 90, 100, 108], 47)) ∧ (decode prog_1_method_39_code 48 = .ok (.aload_n 0, 1)) ∧ (decode prog_1_method_39_code 49 = .ok (.getfield 19, 3)) ∧ (decode prog_1_method_39_code 52 = .ok (.getfield 103, 3)) ∧ (decode prog_1_method_39_code 55 = .ok (.invokestatic 180, 3)) ∧ (decode prog_1_method_39_code 58 = .ok (.ireturn, 1)) ∧ (decode prog_1_method_39_code 59 = .ok (.aload_n 0, 1)) ∧ (decode prog_1_method_39_code 60 = .ok (.getfield 19, 3)) ∧ (decode prog_1_method_39_code 63 = .ok (.invokevirtual 280, 3)) ∧ (decode prog_1_method_39_code 66 = .ok (.ireturn, 1)) ∧ (decode prog_1_method_39_code 67 = .ok (.aload_n 0, 1)) ∧ (decode prog_1_method_39_code 68 = .ok (.getfield 19, 3)) ∧ (decode prog_1_method_39_code 71 = .ok (.getfield 236, 3)) ∧ (decode prog_1_method_39_code 74 = .ok (.getfield 244, 3)) ∧ (decode prog_1_method_39_code 77 = .ok (.ireturn, 1)) ∧ (decode prog_1_method_39_code 78 = .ok (.aload_n 0, 1)) ∧ (decode prog_1_method_39_code 79 = .ok (.invokevirtual 283, 3)) ∧ (decode prog_1_method_39_code 82 = .ok (.ireturn, 1)) ∧ (decode prog_1_method_39_code 83 = .ok (.aload_n 0, 1)) ∧ (decode prog_1_method_39_code 84 = .ok (.getfield 10, 3)) ∧ (decode prog_1_method_39_code 87 = .ok (.getfield 70, 3)) ∧ (decode prog_1_method_39_code 90 = .ok (.ireturn, 1)) ∧ (decode prog_1_method_39_code 91 = .ok (.aload_n 0, 1)) := by
  have h : List.drop 0 prog_1_method_39_code.data.toList = 0x1b :: _ := rfl
  refine ⟨zq_k_n 27 h rfl (zq_o_27 _), ?_⟩
  replace h := zq_nx1 (q := 1) h rfl
  refine ⟨by decide +kernel, ?_⟩
  have h : List.drop 48 prog_1_method_39_code.data.toList = 0x2a :: _ := rfl
  refine ⟨zq_k_n 42 h rfl (zq_o_42 _), ?_⟩
  replace h := zq_nx1 (q := 49) h rfl
  refine ⟨zq_k_u2 180 (fun z => .getfield z) 19 h rfl (zq_o_180 _) (by decide +kernel), ?_⟩
  replace h := zq_nx3 (q := 52) h rfl
  refine ⟨zq_k_u2 180 (fun z => .getfield z) 103 h rfl (zq_o_180 _) (by decide +kernel), ?_⟩
  replace h := zq_nx3 (q := 55) h rfl
  refine ⟨zq_k_u2 184 (fun z => .invokestatic z) 180 h rfl (zq_o_184 _) (by decide +kernel), ?_⟩
  replace h := zq_nx3 (q := 58) h rfl
  refine ⟨zq_k_n 172 h rfl (zq_o_172 _), ?_⟩
  replace h := zq_nx1 (q := 59) h rfl
  refine ⟨zq_k_n 42 h rfl (zq_o_42 _), ?_⟩
  replace h := zq_nx1 (q := 60) h rfl
  refine ⟨zq_k_u2 180 (fun z => .getfield z) 19 h rfl (zq_o_180 _) (by decide +kernel), ?_⟩
  replace h := zq_nx3 (q := 63) h rfl
  refine ⟨zq_k_u2 182 (fun z => .invokevirtual z) 280 h rfl (zq_o_182 _) (by decide +kernel), ?_⟩
  replace h := zq_nx3 (q := 66) h rfl
  refine ⟨zq_k_n 172 h rfl (zq_o_172 _), ?_⟩
  replace h := zq_nx1 (q := 67) h rfl
  refine ⟨zq_k_n 42 h rfl (zq_o_42 _), ?_⟩
  replace h := zq_nx1 (q := 68) h rfl
  refine ⟨zq_k_u2 180 (fun z => .getfield z) 19 h rfl (zq_o_180 _) (by decide +kernel), ?_⟩
  replace h := zq_nx3 (q := 71) h rfl
  refine ⟨zq_k_u2 180 (fun z => .getfield z) 236 h rfl (zq_o_180 _) (by decide +kernel), ?_⟩
  replace h := zq_nx3 (q := 74) h rfl
  refine ⟨zq_k_u2 180 (fun z => .getfield z) 244 h rfl (zq_o_180 _) (by decide +kernel), ?_⟩
  replace h := zq_nx3 (q := 77) h rfl
  refine ⟨zq_k_n 172 h rfl (zq_o_172 _), ?_⟩
  replace h := zq_nx1 (q := 78) h rfl
  refine ⟨zq_k_n 42 h rfl (zq_o_42 _), ?_⟩
  replace h := zq_nx1 (q := 79) h rfl
  refine ⟨zq_k_u2 182 (fun z => .invokevirtual z) 283 h rfl (zq_o_182 _) (by decide +kernel), ?_⟩
  replace h := zq_nx3 (q := 82) h rfl
  refine ⟨zq_k_n 172 h rfl (zq_o_172 _), ?_⟩
  replace h := zq_nx1 (q := 83) h rfl
  refine ⟨zq_k_n 42 h rfl (zq_o_42 _), ?_⟩
  replace h := zq_nx1 (q := 84) h rfl
  refine ⟨zq_k_u2 180 (fun z => .getfield z) 10 h rfl (zq_o_180 _) (by decide +kernel), ?_⟩
  replace h := zq_nx3 (q := 87) h rfl
  refine ⟨zq_k_u2 180 (fun z => .getfield z) 70 h rfl (zq_o_180 _) (by decide +kernel), ?_⟩
  replace h := zq_nx3 (q := 90) h rfl
  refine ⟨zq_k_n 172 h rfl (zq_o_172 _), ?_⟩
  replace h := zq_nx1 (q := 91) h rfl
  exact zq_k_n 42 h rfl (zq_o_42 _)
set_option maxRecDepth 100000 in
theorem dd_Q_count_92 : (decode prog_1_method_39_code 92 = .ok (.getfield 36, 3)) ∧ (decode prog_1_method_39_code 95 = .ok (.iconst 0, 1)) ∧ (decode prog_1_method_39_code 96 = .ok (.aaload, 1)) ∧ (decode prog_1_method_39_code 97 = .ok (.getfield 286, 3)) ∧ (decode prog_1_method_39_code 100 = .ok (.ireturn, 1)) ∧ (decode prog_1_method_39_code 101 = .ok (.aload_n 0, 1)) ∧ (decode prog_1_method_39_code 102 = .ok (.getfield 19, 3)) ∧ (decode prog_1_method_39_code 105 = .ok (.invokevirtual 287, 3)) ∧ (decode prog_1_method_39_code 108 = .ok (.ireturn, 1)) ∧ (decode prog_1_method_39_code 109 = .ok (.aload_n 0, 1)) ∧ (decode prog_1_method_39_code 110 = .ok (.getfield 19, 3)) ∧ (decode prog_1_method_39_code 113 = .ok (.invokevirtual 290, 3)) ∧ (decode prog_1_method_39_code 116 = .ok (.ireturn, 1)) ∧ (decode prog_1_method_39_code 117 = .ok (.iconst (-1), 1)) ∧ (decode prog_1_method_39_code 118 = .ok (.ireturn, 1)) := by
  have h : List.drop 92 prog_1_method_39_code.data.toList = 0xb4 :: _ := rfl
  refine ⟨zq_k_u2 180 (fun z => .getfield z) 36 h rfl (zq_o_180 _) (by decide +kernel), ?_⟩
  replace h := zq_nx3 (q := 95) h rfl
  refine ⟨zq_k_n 3 h rfl (zq_o_3 _), ?_⟩
  replace h := zq_nx1 (q := 96) h rfl
  refine ⟨zq_k_n 50 h rfl (zq_o_50 _), ?_⟩
  replace h := zq_nx1 (q := 97) h rfl
  refine ⟨zq_k_u2 180 (fun z => .getfield z) 286 h rfl (zq_o_180 _) (by decide +kernel), ?_⟩
  replace h := zq_nx3 (q := 100) h rfl
  refine ⟨zq_k_n 172 h rfl (zq_o_172 _), ?_⟩
  replace h := zq_nx1 (q := 101) h rfl
  refine ⟨zq_k_n 42 h rfl (zq_o_42 _), ?_⟩
  replace h := zq_nx1 (q := 102) h rfl
  refine ⟨zq_k_u2 180 (fun z => .getfield z) 19 h rfl (zq_o_180 _) (by decide +kernel), ?_⟩
  replace h := zq_nx3 (q := 105) h rfl
  refine ⟨zq_k_u2 182 (fun z => .invokevirtual z) 287 h rfl (zq_o_182 _) (by decide +kernel), ?_⟩
  replace h := zq_nx3 (q := 108) h rfl
  refine ⟨zq_k_n 172 h rfl (zq_o_172 _), ?_⟩
  replace h := zq_nx1 (q := 109) h rfl
  refine ⟨zq_k_n 42 h rfl (zq_o_42 _), ?_⟩
  replace h := zq_nx1 (q := 110) h rfl
  refine ⟨zq_k_u2 180 (fun z => .getfield z) 19 h rfl (zq_o_180 _) (by decide +kernel), ?_⟩
  replace h := zq_nx3 (q := 113) h rfl
  refine ⟨zq_k_u2 182 (fun z => .invokevirtual z) 290 h rfl (zq_o_182 _) (by decide +kernel), ?_⟩
  replace h := zq_nx3 (q := 116) h rfl
  refine ⟨zq_k_n 172 h rfl (zq_o_172 _), ?_⟩
  replace h := zq_nx1 (q := 117) h rfl
  refine ⟨zq_k_n 2 h rfl (zq_o_2 _), ?_⟩
  replace h := zq_nx1 (q := 118) h rfl
  exact zq_k_n 172 h rfl (zq_o_172 _)
def f_Q_count_0  (a0 : Nat) (a1 : Int32) (h : mH) : Option (Int32 × mH) :=
  if a1 = (0 : Int32) then
    bd1 (gR h a0 0 1) fun x2 =>
    bd1 (gI h x2 4 4) fun x4 =>
    bd2 (f_Integer_bitCount x4 h) fun x8 h6 =>
    some (x8, h6)
  else
  if a1 = (1 : Int32) then
    bd1 (gR h a0 0 1) fun x10 =>
    bd1 (kC h x10 4) fun _ =>
    bd2 (f_Realm_brokenInAll x10 h) fun x16 h14 =>
    some (x16, h14)
  else
  if a1 = (2 : Int32) then
    bd1 (gR h a0 0 1) fun x18 =>
    bd1 (gR h x18 4 18) fun x20 =>
    bd1 (gI h x20 6 0) fun x22 =>
    some (x22, h)
  else
  if a1 = (3 : Int32) then
    bd1 (kC h a0 0) fun _ =>
    bd2 (f_Q_countKept a0 h) fun x29 h27 =>
    some (x29, h27)
  else
  if a1 = (4 : Int32) then
    bd1 (gR h a0 0 0) fun x31 =>
    bd1 (gI h x31 3 1) fun x33 =>
    some (x33, h)
  else
  if a1 = (5 : Int32) then
    bd1 (gR h a0 0 5) fun x36 =>
    bd1 (aR h 5 x36 (0 : Int32)) fun x38 =>
    bd1 (gI h x38 5 0) fun x40 =>
    some (x40, h)
  else
  if a1 = (6 : Int32) then
    bd1 (gR h a0 0 1) fun x43 =>
    bd1 (kC h x43 4) fun _ =>
    bd2 (f_Realm_allPurses x43 h) fun x49 h47 =>
    some (x49, h47)
  else
  if a1 = (7 : Int32) then
    bd1 (gR h a0 0 1) fun x51 =>
    bd1 (kC h x51 4) fun _ =>
    bd2 (f_Realm_allNeed x51 h) fun x57 h55 =>
    some (x57, h55)
  else
  some (((-1) : Int32), h)
set_option maxRecDepth 20000 in
theorem t_Q_count_0 {sc : Nat × (Nat → Int32)}  (a0 : Nat) (a1 : Int32) (h : mH) (r : Int32) (h' : mH) (hf : f_Q_count_0  a0 a1 h = some (r, h')) : G sc y_Q_count prog_1_method_39_code 2 (some .int) 3 67 0 [(0, .ref a0), (1, .int a1)] [] h (some (.int r)) h' := by
  unfold f_Q_count_0 at hf
  refine g_iload_n (pc := 0) 1 dd_Q_count_0.1 rfl rfl ?_
  by_cases c1 : a1 = (0 : Int32)
  · replace hf := (if_pos c1).symm.trans hf
    refine g_tabIn (pc := 1) 48 (0 : Int32) dd_Q_count_0.2.1 c1 (by decide) (by decide) rfl (by decide) ?_
    refine g_aload_n (pc := 48) 0 dd_Q_count_0.2.2.1 rfl rfl ?_
    obtain ⟨x2, e3, hf⟩ := bd1_e hf
    refine g_get (pc := 49) (ci := 0) (kk := 1) dd_Q_count_0.2.2.2.1 rfl in_Q (by decide) wd_297 (gR_spec e3) ?_
    obtain ⟨x4, e5, hf⟩ := bd1_e hf
    refine g_get (pc := 52) (ci := 4) (kk := 4) dd_Q_count_0.2.2.2.2.1 rfl in_Realm (by decide) wd_109 (gI_spec e5) ?_
    obtain ⟨x8, h6, e7, hf⟩ := bd2_e hf
    refine g_callS (pc := 55) [.int x4] (site_of si_Integer_bitCount (by decide) (by decide)) wd_615 wd_616 dd_Q_count_0.2.2.2.2.2.1 (Nat.le_of_ble_eq_true rfl) (fun z => absurd z si_na_Integer_bitCount) (fun z => absurd z si_na_Integer_bitCount) (fun z => absurd z si_na_Integer_bitCount) (c_Integer_bitCount e7) rfl ?_
    refine g_st [.int x8] rfl ?_
    obtain ⟨rfl, rfl⟩ := ret2 hf
    exact g_iret (pc := 58) rfl dd_Q_count_0.2.2.2.2.2.2.1
  replace hf := (if_neg c1).symm.trans hf
  by_cases c9 : a1 = (1 : Int32)
  · replace hf := (if_pos c9).symm.trans hf
    refine g_tabIn (pc := 1) 59 (1 : Int32) dd_Q_count_0.2.1 c9 (by decide) (by decide) rfl (by decide) ?_
    refine g_aload_n (pc := 59) 0 dd_Q_count_0.2.2.2.2.2.2.2.1 rfl rfl ?_
    obtain ⟨x10, e11, hf⟩ := bd1_e hf
    refine g_get (pc := 60) (ci := 0) (kk := 1) dd_Q_count_0.2.2.2.2.2.2.2.2.1 rfl in_Q (by decide) wd_297 (gR_spec e11) ?_
    obtain ⟨u13, e12, hf⟩ := bd1_e hf
    obtain ⟨x16, h14, e15, hf⟩ := bd2_e hf
    refine g_callV (pc := 63) (ci := 4) [] (site_of si_Realm_brokenInAll (by decide) (by decide)) wd_908 wd_909 wd_910 dd_Q_count_0.2.2.2.2.2.2.2.2.2.1 rfl e12 (Nat.le_of_ble_eq_true rfl) (fun z => absurd z si_na_Realm_brokenInAll) (fun z => absurd z si_na_Realm_brokenInAll) (fun z => absurd z si_na_Realm_brokenInAll) (c_Realm_brokenInAll e15) rfl ?_
    refine g_st [.int x16] rfl ?_
    obtain ⟨rfl, rfl⟩ := ret2 hf
    exact g_iret (pc := 66) rfl dd_Q_count_0.2.2.2.2.2.2.2.2.2.2.1
  replace hf := (if_neg c9).symm.trans hf
  by_cases c17 : a1 = (2 : Int32)
  · replace hf := (if_pos c17).symm.trans hf
    refine g_tabIn (pc := 1) 67 (2 : Int32) dd_Q_count_0.2.1 c17 (by decide) (by decide) rfl (by decide) ?_
    refine g_aload_n (pc := 67) 0 dd_Q_count_0.2.2.2.2.2.2.2.2.2.2.2.1 rfl rfl ?_
    obtain ⟨x18, e19, hf⟩ := bd1_e hf
    refine g_get (pc := 68) (ci := 0) (kk := 1) dd_Q_count_0.2.2.2.2.2.2.2.2.2.2.2.2.1 rfl in_Q (by decide) wd_297 (gR_spec e19) ?_
    obtain ⟨x20, e21, hf⟩ := bd1_e hf
    refine g_get (pc := 71) (ci := 4) (kk := 18) dd_Q_count_0.2.2.2.2.2.2.2.2.2.2.2.2.2.1 rfl in_Realm (by decide) wd_155 (gR_spec e21) ?_
    obtain ⟨x22, e23, hf⟩ := bd1_e hf
    refine g_get (pc := 74) (ci := 6) (kk := 0) dd_Q_count_0.2.2.2.2.2.2.2.2.2.2.2.2.2.2.1 rfl in_Sightings (by decide) wd_79 (gI_spec e23) ?_
    obtain ⟨rfl, rfl⟩ := ret2 hf
    exact g_iret (pc := 77) rfl dd_Q_count_0.2.2.2.2.2.2.2.2.2.2.2.2.2.2.2.1
  replace hf := (if_neg c17).symm.trans hf
  by_cases c24 : a1 = (3 : Int32)
  · replace hf := (if_pos c24).symm.trans hf
    refine g_tabIn (pc := 1) 78 (3 : Int32) dd_Q_count_0.2.1 c24 (by decide) (by decide) rfl (by decide) ?_
    refine g_aload_n (pc := 78) 0 dd_Q_count_0.2.2.2.2.2.2.2.2.2.2.2.2.2.2.2.2.1 rfl rfl ?_
    obtain ⟨u26, e25, hf⟩ := bd1_e hf
    obtain ⟨x29, h27, e28, hf⟩ := bd2_e hf
    refine g_callV (pc := 79) (ci := 0) [] (site_of si_Q_countKept (by decide) (by decide)) wd_912 wd_914 wp_29 dd_Q_count_0.2.2.2.2.2.2.2.2.2.2.2.2.2.2.2.2.2.1 rfl e25 (Nat.le_of_ble_eq_true rfl) (fun z => absurd z si_na_Q_countKept) (fun z => absurd z si_na_Q_countKept) (fun z => absurd z si_na_Q_countKept) (c_Q_countKept e28) rfl ?_
    refine g_st [.int x29] rfl ?_
    obtain ⟨rfl, rfl⟩ := ret2 hf
    exact g_iret (pc := 82) rfl dd_Q_count_0.2.2.2.2.2.2.2.2.2.2.2.2.2.2.2.2.2.2.1
  replace hf := (if_neg c24).symm.trans hf
  by_cases c30 : a1 = (4 : Int32)
  · replace hf := (if_pos c30).symm.trans hf
    refine g_tabIn (pc := 1) 83 (4 : Int32) dd_Q_count_0.2.1 c30 (by decide) (by decide) rfl (by decide) ?_
    refine g_aload_n (pc := 83) 0 dd_Q_count_0.2.2.2.2.2.2.2.2.2.2.2.2.2.2.2.2.2.2.2.1 rfl rfl ?_
    obtain ⟨x31, e32, hf⟩ := bd1_e hf
    refine g_get (pc := 84) (ci := 0) (kk := 0) dd_Q_count_0.2.2.2.2.2.2.2.2.2.2.2.2.2.2.2.2.2.2.2.2.1 rfl in_Q (by decide) wd_296 (gR_spec e32) ?_
    obtain ⟨x33, e34, hf⟩ := bd1_e hf
    refine g_get (pc := 87) (ci := 3) (kk := 1) dd_Q_count_0.2.2.2.2.2.2.2.2.2.2.2.2.2.2.2.2.2.2.2.2.2.1 rfl in_Reader (by decide) wd_34 (gI_spec e34) ?_
    obtain ⟨rfl, rfl⟩ := ret2 hf
    exact g_iret (pc := 90) rfl dd_Q_count_0.2.2.2.2.2.2.2.2.2.2.2.2.2.2.2.2.2.2.2.2.2.2.1
  replace hf := (if_neg c30).symm.trans hf
  by_cases c35 : a1 = (5 : Int32)
  · replace hf := (if_pos c35).symm.trans hf
    refine g_tabIn (pc := 1) 91 (5 : Int32) dd_Q_count_0.2.1 c35 (by decide) (by decide) rfl (by decide) ?_
    refine g_aload_n (pc := 91) 0 dd_Q_count_0.2.2.2.2.2.2.2.2.2.2.2.2.2.2.2.2.2.2.2.2.2.2.2 rfl rfl ?_
    obtain ⟨x36, e37, hf⟩ := bd1_e hf
    refine g_get (pc := 92) (ci := 0) (kk := 5) dd_Q_count_92.1 rfl in_Q (by decide) wd_301 (gR_spec e37) ?_
    refine g_iconst (pc := 95) (0 : Int32) dd_Q_count_92.2.1 (by decide) ?_
    obtain ⟨x38, e39, hf⟩ := bd1_e hf
    refine g_aald (pc := 96) "QuotaLaws$Sheet" dd_Q_count_92.2.2.1 (fun _ => rfl) e39 ?_
    obtain ⟨x40, e41, hf⟩ := bd1_e hf
    refine g_get (pc := 97) (ci := 5) (kk := 0) dd_Q_count_92.2.2.2.1 rfl in_Sheet (by decide) wd_286 (gI_spec e41) ?_
    obtain ⟨rfl, rfl⟩ := ret2 hf
    exact g_iret (pc := 100) rfl dd_Q_count_92.2.2.2.2.1
  replace hf := (if_neg c35).symm.trans hf
  by_cases c42 : a1 = (6 : Int32)
  · replace hf := (if_pos c42).symm.trans hf
    refine g_tabIn (pc := 1) 101 (6 : Int32) dd_Q_count_0.2.1 c42 (by decide) (by decide) rfl (by decide) ?_
    refine g_aload_n (pc := 101) 0 dd_Q_count_92.2.2.2.2.2.1 rfl rfl ?_
    obtain ⟨x43, e44, hf⟩ := bd1_e hf
    refine g_get (pc := 102) (ci := 0) (kk := 1) dd_Q_count_92.2.2.2.2.2.2.1 rfl in_Q (by decide) wd_297 (gR_spec e44) ?_
    obtain ⟨u46, e45, hf⟩ := bd1_e hf
    obtain ⟨x49, h47, e48, hf⟩ := bd2_e hf
    refine g_callV (pc := 105) (ci := 4) [] (site_of si_Realm_allPurses (by decide) (by decide)) wd_916 wd_917 wd_918 dd_Q_count_92.2.2.2.2.2.2.2.1 rfl e45 (Nat.le_of_ble_eq_true rfl) (fun z => absurd z si_na_Realm_allPurses) (fun z => absurd z si_na_Realm_allPurses) (fun z => absurd z si_na_Realm_allPurses) (c_Realm_allPurses e48) rfl ?_
    refine g_st [.int x49] rfl ?_
    obtain ⟨rfl, rfl⟩ := ret2 hf
    exact g_iret (pc := 108) rfl dd_Q_count_92.2.2.2.2.2.2.2.2.1
  replace hf := (if_neg c42).symm.trans hf
  by_cases c50 : a1 = (7 : Int32)
  · replace hf := (if_pos c50).symm.trans hf
    refine g_tabIn (pc := 1) 109 (7 : Int32) dd_Q_count_0.2.1 c50 (by decide) (by decide) rfl (by decide) ?_
    refine g_aload_n (pc := 109) 0 dd_Q_count_92.2.2.2.2.2.2.2.2.2.1 rfl rfl ?_
    obtain ⟨x51, e52, hf⟩ := bd1_e hf
    refine g_get (pc := 110) (ci := 0) (kk := 1) dd_Q_count_92.2.2.2.2.2.2.2.2.2.2.1 rfl in_Q (by decide) wd_297 (gR_spec e52) ?_
    obtain ⟨u54, e53, hf⟩ := bd1_e hf
    obtain ⟨x57, h55, e56, hf⟩ := bd2_e hf
    refine g_callV (pc := 113) (ci := 4) [] (site_of si_Realm_allNeed (by decide) (by decide)) wd_920 wd_921 wd_922 dd_Q_count_92.2.2.2.2.2.2.2.2.2.2.2.1 rfl e53 (Nat.le_of_ble_eq_true rfl) (fun z => absurd z si_na_Realm_allNeed) (fun z => absurd z si_na_Realm_allNeed) (fun z => absurd z si_na_Realm_allNeed) (c_Realm_allNeed e56) rfl ?_
    refine g_st [.int x57] rfl ?_
    obtain ⟨rfl, rfl⟩ := ret2 hf
    exact g_iret (pc := 116) rfl dd_Q_count_92.2.2.2.2.2.2.2.2.2.2.2.2.1
  replace hf := (if_neg c50).symm.trans hf
  refine g_tabOut (pc := 1) 117 8 dd_Q_count_0.2.1 (by decide) (fun i hi => ?_) (by decide) ?_
  · rcases (show i = 0 ∨ i = 1 ∨ i = 2 ∨ i = 3 ∨ i = 4 ∨ i = 5 ∨ i = 6 ∨ i = 7 by omega) with rfl | rfl | rfl | rfl | rfl | rfl | rfl | rfl
    · exact c1
    · exact c9
    · exact c17
    · exact c24
    · exact c30
    · exact c35
    · exact c42
    · exact c50
  refine g_iconst (pc := 117) ((-1) : Int32) dd_Q_count_92.2.2.2.2.2.2.2.2.2.2.2.2.2.1 (by decide) ?_
  obtain ⟨rfl, rfl⟩ := ret2 hf
  exact g_iret (pc := 118) rfl dd_Q_count_92.2.2.2.2.2.2.2.2.2.2.2.2.2.2
def f_Q_count (a0 : Nat) (a1 : Int32) (h : mH) : Option (Int32 × mH) := f_Q_count_0 a0 a1 h
theorem c_Q_count {sc : Nat × (Nat → Int32)} {a0 : Nat} {a1 : Int32} {h : mH} {r : Int32} {h' : mH} (hf : f_Q_count a0 a1 h = some (r, h')) : MM sc y_Q_count prog_1_method_39_code 2 (some .int) 3 67 [.ref a0, .int a1] h (some (.int r)) h' :=
  mm_of_G si_pn_Q (Nat.le_of_ble_eq_true rfl) (t_Q_count_0 _ _ _ _ _ hf)
end
/-! 40.make -/
section
/-! Reader init ()V -/
set_option maxRecDepth 100000 in
theorem dd_Reader_new_0 : (decode prog_4_method_1_code 0 = .ok (.aload_n 0, 1)) ∧ (decode prog_4_method_1_code 1 = .ok (.invokespecial 3, 3)) ∧ (decode prog_4_method_1_code 4 = .ok (.aload_n 0, 1)) ∧ (decode prog_4_method_1_code 5 = .ok (.sipush 160, 3)) ∧ (decode prog_4_method_1_code 8 = .ok (.newarray .byte, 2)) ∧ (decode prog_4_method_1_code 10 = .ok (.putfield 9, 3)) ∧ (decode prog_4_method_1_code 13 = .ok (.return_, 1)) := by
  have h : List.drop 0 prog_4_method_1_code.data.toList = 0x2a :: _ := rfl
  refine ⟨zq_k_n 42 h rfl (zq_o_42 _), ?_⟩
  replace h := zq_nx1 (q := 1) h rfl
  refine ⟨zq_k_u2 183 (fun z => .invokespecial z) 3 h rfl (zq_o_183 _) (by decide +kernel), ?_⟩
  replace h := zq_nx3 (q := 4) h rfl
  refine ⟨zq_k_n 42 h rfl (zq_o_42 _), ?_⟩
  replace h := zq_nx1 (q := 5) h rfl
  refine ⟨zq_k_s2 17 (fun z => .sipush z) 160 h rfl (zq_o_17 _) (by decide +kernel), ?_⟩
  replace h := zq_nx3 (q := 8) h rfl
  refine ⟨by decide +kernel, ?_⟩
  have h : List.drop 10 prog_4_method_1_code.data.toList = 0xb5 :: _ := rfl
  refine ⟨zq_k_u2 181 (fun z => .putfield z) 9 h rfl (zq_o_181 _) (by decide +kernel), ?_⟩
  replace h := zq_nx3 (q := 13) h rfl
  exact zq_k_n 177 h rfl (zq_o_177 _)
def f_Reader_new_0  (a0 : Nat) (h : mH) : Option mH :=
  grd (¬ a0 = h.1) <|
  bd1 (mkn h 160 (.inl (1, (160, .inl (fun _ => 0))))) fun h2 =>
  grd (h.1 < h2.1) <|
  bd1 (pV h2 a0 3 0 (.ref h.1)) fun h6 =>
  some h6
set_option maxRecDepth 20000 in
theorem t_Reader_new_0 {sc : Nat × (Nat → Int32)}  (a0 : Nat) (h : mH) (h' : mH) (hf : f_Reader_new_0  a0 h = some h') : G sc y_Reader_new prog_4_method_1_code 1 none 1 20 0 [(0, .ref a0)] [] h none h' := by
  unfold f_Reader_new_0 at hf
  refine g_aload_n (pc := 0) 0 dd_Reader_new_0.1 rfl rfl ?_
  refine g_objInit (pc := 1) dd_Reader_new_0.2.1 wd_31 wd_24 wd_25 (by decide) (Nat.le_of_ble_eq_true rfl) ?_
  refine g_aload_n (pc := 4) 0 dd_Reader_new_0.2.2.1 rfl rfl ?_
  refine g_sipush (pc := 5) (160 : Int32) dd_Reader_new_0.2.2.2.1 (by decide) ?_
  obtain ⟨g1, hf⟩ := grd_e hf
  obtain ⟨h2, e3, hf⟩ := bd1_e hf
  obtain ⟨g4, e5⟩ := mkn_e e3
  refine g_newa (pc := 8) rfl 1 160 .byte (160, .inl (fun _ => 0)) wd_64 rfl (fun _ => rfl) (fun _ _ _ a b => Option.some.inj (a.symm.trans b)) (fun _ => rfl) (fun _ => rfl) (fun _ z => absurd z id) (by decide) (by decide) (by decide) dd_Reader_new_0.2.2.2.2.1 g4 (okl_cons (okv_r (by omega)) (okl_nil)) (oks_cons (okv_r (by omega)) (oks_nil)) ?_
  rw [← e5]
  have h2_n : h2.1 = h.1 + 1 := by rw [e5]; rfl
  obtain ⟨g8, hf⟩ := grd_e hf
  obtain ⟨h6, e7, hf⟩ := bd1_e hf
  refine g_putF (pc := 10) (ci := 3) (kk := 0) ty_Reader tyok_Reader nm_Reader dd_Reader_new_0.2.2.2.2.2.1 rfl in_Reader (by decide) wd_32 rfl rfl rfl (fun _ => rfl) (fun _ => rfl) (fun _ z => by cases z; omega) e7 ?_
  obtain rfl := ret1 hf
  exact g_vret (pc := 13) rfl dd_Reader_new_0.2.2.2.2.2.2
def f_Reader_new (a0 : Nat) (h : mH) : Option mH := f_Reader_new_0 a0 h
theorem c_Reader_new {sc : Nat × (Nat → Int32)} {a0 : Nat} {h : mH} {h' : mH} (hf : f_Reader_new a0 h = some h') : MM sc y_Reader_new prog_4_method_1_code 1 none 1 20 [.ref a0] h none h' :=
  mm_of_G si_pn_Reader (Nat.le_of_ble_eq_true rfl) (t_Reader_new_0 _ _ _ hf)
/-! Sightings init ()V -/
set_option maxRecDepth 100000 in
theorem dd_Sightings_new_0 : (decode prog_7_method_1_code 0 = .ok (.aload_n 0, 1)) ∧ (decode prog_7_method_1_code 1 = .ok (.invokespecial 3, 3)) ∧ (decode prog_7_method_1_code 4 = .ok (.aload_n 0, 1)) ∧ (decode prog_7_method_1_code 5 = .ok (.bipush 8, 2)) ∧ (decode prog_7_method_1_code 7 = .ok (.newarray .int, 2)) ∧ (decode prog_7_method_1_code 9 = .ok (.putfield 9, 3)) ∧ (decode prog_7_method_1_code 12 = .ok (.aload_n 0, 1)) ∧ (decode prog_7_method_1_code 13 = .ok (.bipush 8, 2)) ∧ (decode prog_7_method_1_code 15 = .ok (.newarray .int, 2)) ∧ (decode prog_7_method_1_code 17 = .ok (.putfield 15, 3)) ∧ (decode prog_7_method_1_code 20 = .ok (.aload_n 0, 1)) ∧ (decode prog_7_method_1_code 21 = .ok (.bipush 8, 2)) ∧ (decode prog_7_method_1_code 23 = .ok (.newarray .int, 2)) ∧ (decode prog_7_method_1_code 25 = .ok (.putfield 18, 3)) ∧ (decode prog_7_method_1_code 28 = .ok (.return_, 1)) := by
  have h : List.drop 0 prog_7_method_1_code.data.toList = 0x2a :: _ := rfl
  refine ⟨zq_k_n 42 h rfl (zq_o_42 _), ?_⟩
  replace h := zq_nx1 (q := 1) h rfl
  refine ⟨zq_k_u2 183 (fun z => .invokespecial z) 3 h rfl (zq_o_183 _) (by decide +kernel), ?_⟩
  replace h := zq_nx3 (q := 4) h rfl
  refine ⟨zq_k_n 42 h rfl (zq_o_42 _), ?_⟩
  replace h := zq_nx1 (q := 5) h rfl
  refine ⟨zq_k_s1 16 (fun z => .bipush z) 8 h rfl (zq_o_16 _) (by decide +kernel), ?_⟩
  replace h := zq_nx2 (q := 7) h rfl
  refine ⟨by decide +kernel, ?_⟩
  have h : List.drop 9 prog_7_method_1_code.data.toList = 0xb5 :: _ := rfl
  refine ⟨zq_k_u2 181 (fun z => .putfield z) 9 h rfl (zq_o_181 _) (by decide +kernel), ?_⟩
  replace h := zq_nx3 (q := 12) h rfl
  refine ⟨zq_k_n 42 h rfl (zq_o_42 _), ?_⟩
  replace h := zq_nx1 (q := 13) h rfl
  refine ⟨zq_k_s1 16 (fun z => .bipush z) 8 h rfl (zq_o_16 _) (by decide +kernel), ?_⟩
  replace h := zq_nx2 (q := 15) h rfl
  refine ⟨by decide +kernel, ?_⟩
  have h : List.drop 17 prog_7_method_1_code.data.toList = 0xb5 :: _ := rfl
  refine ⟨zq_k_u2 181 (fun z => .putfield z) 15 h rfl (zq_o_181 _) (by decide +kernel), ?_⟩
  replace h := zq_nx3 (q := 20) h rfl
  refine ⟨zq_k_n 42 h rfl (zq_o_42 _), ?_⟩
  replace h := zq_nx1 (q := 21) h rfl
  refine ⟨zq_k_s1 16 (fun z => .bipush z) 8 h rfl (zq_o_16 _) (by decide +kernel), ?_⟩
  replace h := zq_nx2 (q := 23) h rfl
  refine ⟨by decide +kernel, ?_⟩
  have h : List.drop 25 prog_7_method_1_code.data.toList = 0xb5 :: _ := rfl
  refine ⟨zq_k_u2 181 (fun z => .putfield z) 18 h rfl (zq_o_181 _) (by decide +kernel), ?_⟩
  replace h := zq_nx3 (q := 28) h rfl
  exact zq_k_n 177 h rfl (zq_o_177 _)
def f_Sightings_new_0  (a0 : Nat) (h : mH) : Option mH :=
  grd (¬ a0 = h.1) <|
  bd1 (mkn h 8 (.inl (0, (8, .inl (fun _ => 0))))) fun h2 =>
  grd (h.1 < h2.1) <|
  bd1 (pV h2 a0 6 1 (.ref h.1)) fun h6 =>
  grd (¬ a0 = h6.1) <|
  bd1 (mkn h6 8 (.inl (0, (8, .inl (fun _ => 0))))) fun h10 =>
  grd (h6.1 < h10.1) <|
  bd1 (pV h10 a0 6 2 (.ref h6.1)) fun h14 =>
  grd (¬ a0 = h14.1) <|
  bd1 (mkn h14 8 (.inl (0, (8, .inl (fun _ => 0))))) fun h18 =>
  grd (h14.1 < h18.1) <|
  bd1 (pV h18 a0 6 3 (.ref h14.1)) fun h22 =>
  some h22
set_option maxRecDepth 20000 in
theorem t_Sightings_new_0 {sc : Nat × (Nat → Int32)}  (a0 : Nat) (h : mH) (h' : mH) (hf : f_Sightings_new_0  a0 h = some h') : G sc y_Sightings_new prog_7_method_1_code 1 none 1 20 0 [(0, .ref a0)] [] h none h' := by
  unfold f_Sightings_new_0 at hf
  refine g_aload_n (pc := 0) 0 dd_Sightings_new_0.1 rfl rfl ?_
  refine g_objInit (pc := 1) dd_Sightings_new_0.2.1 wd_76 wd_24 wd_25 (by decide) (Nat.le_of_ble_eq_true rfl) ?_
  refine g_aload_n (pc := 4) 0 dd_Sightings_new_0.2.2.1 rfl rfl ?_
  refine g_bipush (pc := 5) (8 : Int32) dd_Sightings_new_0.2.2.2.1 (by decide) ?_
  obtain ⟨g1, hf⟩ := grd_e hf
  obtain ⟨h2, e3, hf⟩ := bd1_e hf
  obtain ⟨g4, e5⟩ := mkn_e e3
  refine g_newa (pc := 7) rfl 0 8 .int (8, .inl (fun _ => 0)) wd_92 rfl (fun _ => rfl) (fun _ _ _ a b => Option.some.inj (a.symm.trans b)) (fun _ => rfl) (fun _ => rfl) (fun _ z => absurd z id) (by decide) (by decide) (by decide) dd_Sightings_new_0.2.2.2.2.1 g4 (okl_cons (okv_r (by omega)) (okl_nil)) (oks_cons (okv_r (by omega)) (oks_nil)) ?_
  rw [← e5]
  have h2_n : h2.1 = h.1 + 1 := by rw [e5]; rfl
  obtain ⟨g8, hf⟩ := grd_e hf
  obtain ⟨h6, e7, hf⟩ := bd1_e hf
  refine g_putF (pc := 9) (ci := 6) (kk := 1) ty_Sightings tyok_Sightings nm_Sightings dd_Sightings_new_0.2.2.2.2.2.1 rfl in_Sightings (by decide) wd_80 rfl rfl rfl (fun _ => rfl) (fun _ => rfl) (fun _ z => by cases z; omega) e7 ?_
  refine g_aload_n (pc := 12) 0 dd_Sightings_new_0.2.2.2.2.2.2.1 rfl rfl ?_
  refine g_bipush (pc := 13) (8 : Int32) dd_Sightings_new_0.2.2.2.2.2.2.2.1 (by decide) ?_
  obtain ⟨g9, hf⟩ := grd_e hf
  obtain ⟨h10, e11, hf⟩ := bd1_e hf
  obtain ⟨g12, e13⟩ := mkn_e e11
  refine g_newa (pc := 15) rfl 0 8 .int (8, .inl (fun _ => 0)) wd_92 rfl (fun _ => rfl) (fun _ _ _ a b => Option.some.inj (a.symm.trans b)) (fun _ => rfl) (fun _ => rfl) (fun _ z => absurd z id) (by decide) (by decide) (by decide) dd_Sightings_new_0.2.2.2.2.2.2.2.2.1 g12 (okl_cons (okv_r (by omega)) (okl_nil)) (oks_cons (okv_r (by omega)) (oks_nil)) ?_
  rw [← e13]
  have h10_n : h10.1 = h6.1 + 1 := by rw [e13]; rfl
  obtain ⟨g16, hf⟩ := grd_e hf
  obtain ⟨h14, e15, hf⟩ := bd1_e hf
  refine g_putF (pc := 17) (ci := 6) (kk := 2) ty_Sightings tyok_Sightings nm_Sightings dd_Sightings_new_0.2.2.2.2.2.2.2.2.2.1 rfl in_Sightings (by decide) wd_81 rfl rfl rfl (fun _ => rfl) (fun _ => rfl) (fun _ z => by cases z; omega) e15 ?_
  refine g_aload_n (pc := 20) 0 dd_Sightings_new_0.2.2.2.2.2.2.2.2.2.2.1 rfl rfl ?_
  refine g_bipush (pc := 21) (8 : Int32) dd_Sightings_new_0.2.2.2.2.2.2.2.2.2.2.2.1 (by decide) ?_
  obtain ⟨g17, hf⟩ := grd_e hf
  obtain ⟨h18, e19, hf⟩ := bd1_e hf
  obtain ⟨g20, e21⟩ := mkn_e e19
  refine g_newa (pc := 23) rfl 0 8 .int (8, .inl (fun _ => 0)) wd_92 rfl (fun _ => rfl) (fun _ _ _ a b => Option.some.inj (a.symm.trans b)) (fun _ => rfl) (fun _ => rfl) (fun _ z => absurd z id) (by decide) (by decide) (by decide) dd_Sightings_new_0.2.2.2.2.2.2.2.2.2.2.2.2.1 g20 (okl_cons (okv_r (by omega)) (okl_nil)) (oks_cons (okv_r (by omega)) (oks_nil)) ?_
  rw [← e21]
  have h18_n : h18.1 = h14.1 + 1 := by rw [e21]; rfl
  obtain ⟨g24, hf⟩ := grd_e hf
  obtain ⟨h22, e23, hf⟩ := bd1_e hf
  refine g_putF (pc := 25) (ci := 6) (kk := 3) ty_Sightings tyok_Sightings nm_Sightings dd_Sightings_new_0.2.2.2.2.2.2.2.2.2.2.2.2.2.1 rfl in_Sightings (by decide) wd_82 rfl rfl rfl (fun _ => rfl) (fun _ => rfl) (fun _ z => by cases z; omega) e23 ?_
  obtain rfl := ret1 hf
  exact g_vret (pc := 28) rfl dd_Sightings_new_0.2.2.2.2.2.2.2.2.2.2.2.2.2.2
def f_Sightings_new (a0 : Nat) (h : mH) : Option mH := f_Sightings_new_0 a0 h
theorem c_Sightings_new {sc : Nat × (Nat → Int32)} {a0 : Nat} {h : mH} {h' : mH} (hf : f_Sightings_new a0 h = some h') : MM sc y_Sightings_new prog_7_method_1_code 1 none 1 20 [.ref a0] h none h' :=
  mm_of_G si_pn_Sightings (Nat.le_of_ble_eq_true rfl) (t_Sightings_new_0 _ _ _ hf)
/-! Realm init ()V -/
set_option maxRecDepth 100000 in
theorem dd_Realm_new_0 : (decode prog_5_method_1_code 0 = .ok (.aload_n 0, 1)) ∧ (decode prog_5_method_1_code 1 = .ok (.invokespecial 3, 3)) ∧ (decode prog_5_method_1_code 4 = .ok (.aload_n 0, 1)) ∧ (decode prog_5_method_1_code 5 = .ok (.iconst 5, 1)) ∧ (decode prog_5_method_1_code 6 = .ok (.newarray .int, 2)) ∧ (decode prog_5_method_1_code 8 = .ok (.putfield 9, 3)) ∧ (decode prog_5_method_1_code 11 = .ok (.aload_n 0, 1)) ∧ (decode prog_5_method_1_code 12 = .ok (.iconst 5, 1)) ∧ (decode prog_5_method_1_code 13 = .ok (.newarray .int, 2)) ∧ (decode prog_5_method_1_code 15 = .ok (.putfield 15, 3)) ∧ (decode prog_5_method_1_code 18 = .ok (.aload_n 0, 1)) ∧ (decode prog_5_method_1_code 19 = .ok (.iconst 5, 1)) ∧ (decode prog_5_method_1_code 20 = .ok (.newarray .int, 2)) ∧ (decode prog_5_method_1_code 22 = .ok (.putfield 18, 3)) ∧ (decode prog_5_method_1_code 25 = .ok (.aload_n 0, 1)) ∧ (decode prog_5_method_1_code 26 = .ok (.iconst 5, 1)) ∧ (decode prog_5_method_1_code 27 = .ok (.newarray .int, 2)) ∧ (decode prog_5_method_1_code 29 = .ok (.putfield 21, 3)) ∧ (decode prog_5_method_1_code 32 = .ok (.aload_n 0, 1)) ∧ (decode prog_5_method_1_code 33 = .ok (.iconst 5, 1)) ∧ (decode prog_5_method_1_code 34 = .ok (.newarray .int, 2)) ∧ (decode prog_5_method_1_code 36 = .ok (.putfield 24, 3)) ∧ (decode prog_5_method_1_code 39 = .ok (.aload_n 0, 1)) ∧ (decode prog_5_method_1_code 40 = .ok (.iconst 3, 1)) := by
  have h : List.drop 0 prog_5_method_1_code.data.toList = 0x2a :: _ := rfl
  refine ⟨zq_k_n 42 h rfl (zq_o_42 _), ?_⟩
  replace h := zq_nx1 (q := 1) h rfl
  refine ⟨zq_k_u2 183 (fun z => .invokespecial z) 3 h rfl (zq_o_183 _) (by decide +kernel), ?_⟩
  replace h := zq_nx3 (q := 4) h rfl
  refine ⟨zq_k_n 42 h rfl (zq_o_42 _), ?_⟩
  replace h := zq_nx1 (q := 5) h rfl
  refine ⟨zq_k_n 8 h rfl (zq_o_8 _), ?_⟩
  replace h := zq_nx1 (q := 6) h rfl
  refine ⟨by decide +kernel, ?_⟩
  have h : List.drop 8 prog_5_method_1_code.data.toList = 0xb5 :: _ := rfl
  refine ⟨zq_k_u2 181 (fun z => .putfield z) 9 h rfl (zq_o_181 _) (by decide +kernel), ?_⟩
  replace h := zq_nx3 (q := 11) h rfl
  refine ⟨zq_k_n 42 h rfl (zq_o_42 _), ?_⟩
  replace h := zq_nx1 (q := 12) h rfl
  refine ⟨zq_k_n 8 h rfl (zq_o_8 _), ?_⟩
  replace h := zq_nx1 (q := 13) h rfl
  refine ⟨by decide +kernel, ?_⟩
  have h : List.drop 15 prog_5_method_1_code.data.toList = 0xb5 :: _ := rfl
  refine ⟨zq_k_u2 181 (fun z => .putfield z) 15 h rfl (zq_o_181 _) (by decide +kernel), ?_⟩
  replace h := zq_nx3 (q := 18) h rfl
  refine ⟨zq_k_n 42 h rfl (zq_o_42 _), ?_⟩
  replace h := zq_nx1 (q := 19) h rfl
  refine ⟨zq_k_n 8 h rfl (zq_o_8 _), ?_⟩
  replace h := zq_nx1 (q := 20) h rfl
  refine ⟨by decide +kernel, ?_⟩
  have h : List.drop 22 prog_5_method_1_code.data.toList = 0xb5 :: _ := rfl
  refine ⟨zq_k_u2 181 (fun z => .putfield z) 18 h rfl (zq_o_181 _) (by decide +kernel), ?_⟩
  replace h := zq_nx3 (q := 25) h rfl
  refine ⟨zq_k_n 42 h rfl (zq_o_42 _), ?_⟩
  replace h := zq_nx1 (q := 26) h rfl
  refine ⟨zq_k_n 8 h rfl (zq_o_8 _), ?_⟩
  replace h := zq_nx1 (q := 27) h rfl
  refine ⟨by decide +kernel, ?_⟩
  have h : List.drop 29 prog_5_method_1_code.data.toList = 0xb5 :: _ := rfl
  refine ⟨zq_k_u2 181 (fun z => .putfield z) 21 h rfl (zq_o_181 _) (by decide +kernel), ?_⟩
  replace h := zq_nx3 (q := 32) h rfl
  refine ⟨zq_k_n 42 h rfl (zq_o_42 _), ?_⟩
  replace h := zq_nx1 (q := 33) h rfl
  refine ⟨zq_k_n 8 h rfl (zq_o_8 _), ?_⟩
  replace h := zq_nx1 (q := 34) h rfl
  refine ⟨by decide +kernel, ?_⟩
  have h : List.drop 36 prog_5_method_1_code.data.toList = 0xb5 :: _ := rfl
  refine ⟨zq_k_u2 181 (fun z => .putfield z) 24 h rfl (zq_o_181 _) (by decide +kernel), ?_⟩
  replace h := zq_nx3 (q := 39) h rfl
  refine ⟨zq_k_n 42 h rfl (zq_o_42 _), ?_⟩
  replace h := zq_nx1 (q := 40) h rfl
  exact zq_k_n 6 h rfl (zq_o_6 _)
set_option maxRecDepth 100000 in
theorem dd_Realm_new_41 : (decode prog_5_method_1_code 41 = .ok (.newarray .int, 2)) ∧ (decode prog_5_method_1_code 43 = .ok (.putfield 27, 3)) ∧ (decode prog_5_method_1_code 46 = .ok (.aload_n 0, 1)) ∧ (decode prog_5_method_1_code 47 = .ok (.iconst 3, 1)) ∧ (decode prog_5_method_1_code 48 = .ok (.newarray .int, 2)) ∧ (decode prog_5_method_1_code 50 = .ok (.putfield 30, 3)) ∧ (decode prog_5_method_1_code 53 = .ok (.aload_n 0, 1)) ∧ (decode prog_5_method_1_code 54 = .ok (.iconst 3, 1)) ∧ (decode prog_5_method_1_code 55 = .ok (.newarray .int, 2)) ∧ (decode prog_5_method_1_code 57 = .ok (.putfield 33, 3)) ∧ (decode prog_5_method_1_code 60 = .ok (.aload_n 0, 1)) ∧ (decode prog_5_method_1_code 61 = .ok (.iconst 3, 1)) ∧ (decode prog_5_method_1_code 62 = .ok (.newarray .int, 2)) ∧ (decode prog_5_method_1_code 64 = .ok (.putfield 36, 3)) ∧ (decode prog_5_method_1_code 67 = .ok (.aload_n 0, 1)) ∧ (decode prog_5_method_1_code 68 = .ok (.iconst 3, 1)) ∧ (decode prog_5_method_1_code 69 = .ok (.newarray .int, 2)) ∧ (decode prog_5_method_1_code 71 = .ok (.putfield 39, 3)) ∧ (decode prog_5_method_1_code 74 = .ok (.aload_n 0, 1)) ∧ (decode prog_5_method_1_code 75 = .ok (.iconst 3, 1)) ∧ (decode prog_5_method_1_code 76 = .ok (.newarray .int, 2)) ∧ (decode prog_5_method_1_code 78 = .ok (.putfield 42, 3)) ∧ (decode prog_5_method_1_code 81 = .ok (.aload_n 0, 1)) ∧ (decode prog_5_method_1_code 82 = .ok (.bipush 15, 2)) := by
  refine ⟨by decide +kernel, ?_⟩
  have h : List.drop 43 prog_5_method_1_code.data.toList = 0xb5 :: _ := rfl
  refine ⟨zq_k_u2 181 (fun z => .putfield z) 27 h rfl (zq_o_181 _) (by decide +kernel), ?_⟩
  replace h := zq_nx3 (q := 46) h rfl
  refine ⟨zq_k_n 42 h rfl (zq_o_42 _), ?_⟩
  replace h := zq_nx1 (q := 47) h rfl
  refine ⟨zq_k_n 6 h rfl (zq_o_6 _), ?_⟩
  replace h := zq_nx1 (q := 48) h rfl
  refine ⟨by decide +kernel, ?_⟩
  have h : List.drop 50 prog_5_method_1_code.data.toList = 0xb5 :: _ := rfl
  refine ⟨zq_k_u2 181 (fun z => .putfield z) 30 h rfl (zq_o_181 _) (by decide +kernel), ?_⟩
  replace h := zq_nx3 (q := 53) h rfl
  refine ⟨zq_k_n 42 h rfl (zq_o_42 _), ?_⟩
  replace h := zq_nx1 (q := 54) h rfl
  refine ⟨zq_k_n 6 h rfl (zq_o_6 _), ?_⟩
  replace h := zq_nx1 (q := 55) h rfl
  refine ⟨by decide +kernel, ?_⟩
  have h : List.drop 57 prog_5_method_1_code.data.toList = 0xb5 :: _ := rfl
  refine ⟨zq_k_u2 181 (fun z => .putfield z) 33 h rfl (zq_o_181 _) (by decide +kernel), ?_⟩
  replace h := zq_nx3 (q := 60) h rfl
  refine ⟨zq_k_n 42 h rfl (zq_o_42 _), ?_⟩
  replace h := zq_nx1 (q := 61) h rfl
  refine ⟨zq_k_n 6 h rfl (zq_o_6 _), ?_⟩
  replace h := zq_nx1 (q := 62) h rfl
  refine ⟨by decide +kernel, ?_⟩
  have h : List.drop 64 prog_5_method_1_code.data.toList = 0xb5 :: _ := rfl
  refine ⟨zq_k_u2 181 (fun z => .putfield z) 36 h rfl (zq_o_181 _) (by decide +kernel), ?_⟩
  replace h := zq_nx3 (q := 67) h rfl
  refine ⟨zq_k_n 42 h rfl (zq_o_42 _), ?_⟩
  replace h := zq_nx1 (q := 68) h rfl
  refine ⟨zq_k_n 6 h rfl (zq_o_6 _), ?_⟩
  replace h := zq_nx1 (q := 69) h rfl
  refine ⟨by decide +kernel, ?_⟩
  have h : List.drop 71 prog_5_method_1_code.data.toList = 0xb5 :: _ := rfl
  refine ⟨zq_k_u2 181 (fun z => .putfield z) 39 h rfl (zq_o_181 _) (by decide +kernel), ?_⟩
  replace h := zq_nx3 (q := 74) h rfl
  refine ⟨zq_k_n 42 h rfl (zq_o_42 _), ?_⟩
  replace h := zq_nx1 (q := 75) h rfl
  refine ⟨zq_k_n 6 h rfl (zq_o_6 _), ?_⟩
  replace h := zq_nx1 (q := 76) h rfl
  refine ⟨by decide +kernel, ?_⟩
  have h : List.drop 78 prog_5_method_1_code.data.toList = 0xb5 :: _ := rfl
  refine ⟨zq_k_u2 181 (fun z => .putfield z) 42 h rfl (zq_o_181 _) (by decide +kernel), ?_⟩
  replace h := zq_nx3 (q := 81) h rfl
  refine ⟨zq_k_n 42 h rfl (zq_o_42 _), ?_⟩
  replace h := zq_nx1 (q := 82) h rfl
  exact zq_k_s1 16 (fun z => .bipush z) 15 h rfl (zq_o_16 _) (by decide +kernel)
set_option maxRecDepth 100000 in
theorem dd_Realm_new_84 : (decode prog_5_method_1_code 84 = .ok (.newarray .int, 2)) ∧ (decode prog_5_method_1_code 86 = .ok (.putfield 45, 3)) ∧ (decode prog_5_method_1_code 89 = .ok (.aload_n 0, 1)) ∧ (decode prog_5_method_1_code 90 = .ok (.new 48, 3)) ∧ (decode prog_5_method_1_code 93 = .ok (.dup, 1)) ∧ (decode prog_5_method_1_code 94 = .ok (.invokespecial 50, 3)) ∧ (decode prog_5_method_1_code 97 = .ok (.putfield 51, 3)) ∧ (decode prog_5_method_1_code 100 = .ok (.return_, 1)) := by
  refine ⟨by decide +kernel, ?_⟩
  have h : List.drop 86 prog_5_method_1_code.data.toList = 0xb5 :: _ := rfl
  refine ⟨zq_k_u2 181 (fun z => .putfield z) 45 h rfl (zq_o_181 _) (by decide +kernel), ?_⟩
  replace h := zq_nx3 (q := 89) h rfl
  refine ⟨zq_k_n 42 h rfl (zq_o_42 _), ?_⟩
  replace h := zq_nx1 (q := 90) h rfl
  refine ⟨zq_k_u2 187 (fun z => .new z) 48 h rfl (zq_o_187 _) (by decide +kernel), ?_⟩
  replace h := zq_nx3 (q := 93) h rfl
  refine ⟨zq_k_n 89 h rfl (zq_o_89 _), ?_⟩
  replace h := zq_nx1 (q := 94) h rfl
  refine ⟨zq_k_u2 183 (fun z => .invokespecial z) 50 h rfl (zq_o_183 _) (by decide +kernel), ?_⟩
  replace h := zq_nx3 (q := 97) h rfl
  refine ⟨zq_k_u2 181 (fun z => .putfield z) 51 h rfl (zq_o_181 _) (by decide +kernel), ?_⟩
  replace h := zq_nx3 (q := 100) h rfl
  exact zq_k_n 177 h rfl (zq_o_177 _)
def f_Realm_new_0  (a0 : Nat) (h : mH) : Option mH :=
  grd (¬ a0 = h.1) <|
  bd1 (mkn h 5 (.inl (0, (5, .inl (fun _ => 0))))) fun h2 =>
  grd (h.1 < h2.1) <|
  bd1 (pV h2 a0 4 6 (.ref h.1)) fun h6 =>
  grd (¬ a0 = h6.1) <|
  bd1 (mkn h6 5 (.inl (0, (5, .inl (fun _ => 0))))) fun h10 =>
  grd (h6.1 < h10.1) <|
  bd1 (pV h10 a0 4 7 (.ref h6.1)) fun h14 =>
  grd (¬ a0 = h14.1) <|
  bd1 (mkn h14 5 (.inl (0, (5, .inl (fun _ => 0))))) fun h18 =>
  grd (h14.1 < h18.1) <|
  bd1 (pV h18 a0 4 8 (.ref h14.1)) fun h22 =>
  grd (¬ a0 = h22.1) <|
  bd1 (mkn h22 5 (.inl (0, (5, .inl (fun _ => 0))))) fun h26 =>
  grd (h22.1 < h26.1) <|
  bd1 (pV h26 a0 4 9 (.ref h22.1)) fun h30 =>
  grd (¬ a0 = h30.1) <|
  bd1 (mkn h30 5 (.inl (0, (5, .inl (fun _ => 0))))) fun h34 =>
  grd (h30.1 < h34.1) <|
  bd1 (pV h34 a0 4 10 (.ref h30.1)) fun h38 =>
  grd (¬ a0 = h38.1) <|
  bd1 (mkn h38 3 (.inl (0, (3, .inl (fun _ => 0))))) fun h42 =>
  grd (h38.1 < h42.1) <|
  bd1 (pV h42 a0 4 11 (.ref h38.1)) fun h46 =>
  grd (¬ a0 = h46.1) <|
  bd1 (mkn h46 3 (.inl (0, (3, .inl (fun _ => 0))))) fun h50 =>
  grd (h46.1 < h50.1) <|
  bd1 (pV h50 a0 4 12 (.ref h46.1)) fun h54 =>
  grd (¬ a0 = h54.1) <|
  bd1 (mkn h54 3 (.inl (0, (3, .inl (fun _ => 0))))) fun h58 =>
  grd (h54.1 < h58.1) <|
  bd1 (pV h58 a0 4 13 (.ref h54.1)) fun h62 =>
  grd (¬ a0 = h62.1) <|
  bd1 (mkn h62 3 (.inl (0, (3, .inl (fun _ => 0))))) fun h66 =>
  grd (h62.1 < h66.1) <|
  bd1 (pV h66 a0 4 14 (.ref h62.1)) fun h70 =>
  grd (¬ a0 = h70.1) <|
  bd1 (mkn h70 3 (.inl (0, (3, .inl (fun _ => 0))))) fun h74 =>
  grd (h70.1 < h74.1) <|
  bd1 (pV h74 a0 4 15 (.ref h70.1)) fun h78 =>
  grd (¬ a0 = h78.1) <|
  bd1 (mkn h78 3 (.inl (0, (3, .inl (fun _ => 0))))) fun h82 =>
  grd (h78.1 < h82.1) <|
  bd1 (pV h82 a0 4 16 (.ref h78.1)) fun h86 =>
  grd (¬ a0 = h86.1) <|
  bd1 (mkn h86 15 (.inl (0, (15, .inl (fun _ => 0))))) fun h90 =>
  grd (h86.1 < h90.1) <|
  bd1 (pV h90 a0 4 17 (.ref h86.1)) fun h94 =>
  grd (¬ a0 = h94.1) <|
  bd1 (mkn h94 4 (.inr (6, [.int 0, .null, .null, .null]))) fun h98 =>
  grd (a0 < h98.1 ∧ h94.1 < h98.1) <|
  bd1 (f_Sightings_new h94.1 h98) fun h104 =>
  grd (h94.1 < h104.1) <|
  bd1 (pV h104 a0 4 18 (.ref h94.1)) fun h106 =>
  some h106
set_option maxRecDepth 20000 in
theorem t_Realm_new_0 {sc : Nat × (Nat → Int32)}  (a0 : Nat) (h : mH) (h' : mH) (hf : f_Realm_new_0  a0 h = some h') : G sc y_Realm_new prog_5_method_1_code 1 none 2 40 0 [(0, .ref a0)] [] h none h' := by
  unfold f_Realm_new_0 at hf
  refine g_aload_n (pc := 0) 0 dd_Realm_new_0.1 rfl rfl ?_
  refine g_objInit (pc := 1) dd_Realm_new_0.2.1 wd_70 wd_24 wd_25 (by decide) (Nat.le_of_ble_eq_true rfl) ?_
  refine g_aload_n (pc := 4) 0 dd_Realm_new_0.2.2.1 rfl rfl ?_
  refine g_iconst (pc := 5) (5 : Int32) dd_Realm_new_0.2.2.2.1 (by decide) ?_
  obtain ⟨g1, hf⟩ := grd_e hf
  obtain ⟨h2, e3, hf⟩ := bd1_e hf
  obtain ⟨g4, e5⟩ := mkn_e e3
  refine g_newa (pc := 6) rfl 0 5 .int (5, .inl (fun _ => 0)) wd_92 rfl (fun _ => rfl) (fun _ _ _ a b => Option.some.inj (a.symm.trans b)) (fun _ => rfl) (fun _ => rfl) (fun _ z => absurd z id) (by decide) (by decide) (by decide) dd_Realm_new_0.2.2.2.2.1 g4 (okl_cons (okv_r (by omega)) (okl_nil)) (oks_cons (okv_r (by omega)) (oks_nil)) ?_
  rw [← e5]
  have h2_n : h2.1 = h.1 + 1 := by rw [e5]; rfl
  obtain ⟨g8, hf⟩ := grd_e hf
  obtain ⟨h6, e7, hf⟩ := bd1_e hf
  refine g_putF (pc := 8) (ci := 4) (kk := 6) ty_Realm tyok_Realm nm_Realm dd_Realm_new_0.2.2.2.2.2.1 rfl in_Realm (by decide) wd_113 rfl rfl rfl (fun _ => rfl) (fun _ => rfl) (fun _ z => by cases z; omega) e7 ?_
  refine g_aload_n (pc := 11) 0 dd_Realm_new_0.2.2.2.2.2.2.1 rfl rfl ?_
  refine g_iconst (pc := 12) (5 : Int32) dd_Realm_new_0.2.2.2.2.2.2.2.1 (by decide) ?_
  obtain ⟨g9, hf⟩ := grd_e hf
  obtain ⟨h10, e11, hf⟩ := bd1_e hf
  obtain ⟨g12, e13⟩ := mkn_e e11
  refine g_newa (pc := 13) rfl 0 5 .int (5, .inl (fun _ => 0)) wd_92 rfl (fun _ => rfl) (fun _ _ _ a b => Option.some.inj (a.symm.trans b)) (fun _ => rfl) (fun _ => rfl) (fun _ z => absurd z id) (by decide) (by decide) (by decide) dd_Realm_new_0.2.2.2.2.2.2.2.2.1 g12 (okl_cons (okv_r (by omega)) (okl_nil)) (oks_cons (okv_r (by omega)) (oks_nil)) ?_
  rw [← e13]
  have h10_n : h10.1 = h6.1 + 1 := by rw [e13]; rfl
  obtain ⟨g16, hf⟩ := grd_e hf
  obtain ⟨h14, e15, hf⟩ := bd1_e hf
  refine g_putF (pc := 15) (ci := 4) (kk := 7) ty_Realm tyok_Realm nm_Realm dd_Realm_new_0.2.2.2.2.2.2.2.2.2.1 rfl in_Realm (by decide) wd_116 rfl rfl rfl (fun _ => rfl) (fun _ => rfl) (fun _ z => by cases z; omega) e15 ?_
  refine g_aload_n (pc := 18) 0 dd_Realm_new_0.2.2.2.2.2.2.2.2.2.2.1 rfl rfl ?_
  refine g_iconst (pc := 19) (5 : Int32) dd_Realm_new_0.2.2.2.2.2.2.2.2.2.2.2.1 (by decide) ?_
  obtain ⟨g17, hf⟩ := grd_e hf
  obtain ⟨h18, e19, hf⟩ := bd1_e hf
  obtain ⟨g20, e21⟩ := mkn_e e19
  refine g_newa (pc := 20) rfl 0 5 .int (5, .inl (fun _ => 0)) wd_92 rfl (fun _ => rfl) (fun _ _ _ a b => Option.some.inj (a.symm.trans b)) (fun _ => rfl) (fun _ => rfl) (fun _ z => absurd z id) (by decide) (by decide) (by decide) dd_Realm_new_0.2.2.2.2.2.2.2.2.2.2.2.2.1 g20 (okl_cons (okv_r (by omega)) (okl_nil)) (oks_cons (okv_r (by omega)) (oks_nil)) ?_
  rw [← e21]
  have h18_n : h18.1 = h14.1 + 1 := by rw [e21]; rfl
  obtain ⟨g24, hf⟩ := grd_e hf
  obtain ⟨h22, e23, hf⟩ := bd1_e hf
  refine g_putF (pc := 22) (ci := 4) (kk := 8) ty_Realm tyok_Realm nm_Realm dd_Realm_new_0.2.2.2.2.2.2.2.2.2.2.2.2.2.1 rfl in_Realm (by decide) wd_120 rfl rfl rfl (fun _ => rfl) (fun _ => rfl) (fun _ z => by cases z; omega) e23 ?_
  refine g_aload_n (pc := 25) 0 dd_Realm_new_0.2.2.2.2.2.2.2.2.2.2.2.2.2.2.1 rfl rfl ?_
  refine g_iconst (pc := 26) (5 : Int32) dd_Realm_new_0.2.2.2.2.2.2.2.2.2.2.2.2.2.2.2.1 (by decide) ?_
  obtain ⟨g25, hf⟩ := grd_e hf
  obtain ⟨h26, e27, hf⟩ := bd1_e hf
  obtain ⟨g28, e29⟩ := mkn_e e27
  refine g_newa (pc := 27) rfl 0 5 .int (5, .inl (fun _ => 0)) wd_92 rfl (fun _ => rfl) (fun _ _ _ a b => Option.some.inj (a.symm.trans b)) (fun _ => rfl) (fun _ => rfl) (fun _ z => absurd z id) (by decide) (by decide) (by decide) dd_Realm_new_0.2.2.2.2.2.2.2.2.2.2.2.2.2.2.2.2.1 g28 (okl_cons (okv_r (by omega)) (okl_nil)) (oks_cons (okv_r (by omega)) (oks_nil)) ?_
  rw [← e29]
  have h26_n : h26.1 = h22.1 + 1 := by rw [e29]; rfl
  obtain ⟨g32, hf⟩ := grd_e hf
  obtain ⟨h30, e31, hf⟩ := bd1_e hf
  refine g_putF (pc := 29) (ci := 4) (kk := 9) ty_Realm tyok_Realm nm_Realm dd_Realm_new_0.2.2.2.2.2.2.2.2.2.2.2.2.2.2.2.2.2.1 rfl in_Realm (by decide) wd_124 rfl rfl rfl (fun _ => rfl) (fun _ => rfl) (fun _ z => by cases z; omega) e31 ?_
  refine g_aload_n (pc := 32) 0 dd_Realm_new_0.2.2.2.2.2.2.2.2.2.2.2.2.2.2.2.2.2.2.1 rfl rfl ?_
  refine g_iconst (pc := 33) (5 : Int32) dd_Realm_new_0.2.2.2.2.2.2.2.2.2.2.2.2.2.2.2.2.2.2.2.1 (by decide) ?_
  obtain ⟨g33, hf⟩ := grd_e hf
  obtain ⟨h34, e35, hf⟩ := bd1_e hf
  obtain ⟨g36, e37⟩ := mkn_e e35
  refine g_newa (pc := 34) rfl 0 5 .int (5, .inl (fun _ => 0)) wd_92 rfl (fun _ => rfl) (fun _ _ _ a b => Option.some.inj (a.symm.trans b)) (fun _ => rfl) (fun _ => rfl) (fun _ z => absurd z id) (by decide) (by decide) (by decide) dd_Realm_new_0.2.2.2.2.2.2.2.2.2.2.2.2.2.2.2.2.2.2.2.2.1 g36 (okl_cons (okv_r (by omega)) (okl_nil)) (oks_cons (okv_r (by omega)) (oks_nil)) ?_
  rw [← e37]
  have h34_n : h34.1 = h30.1 + 1 := by rw [e37]; rfl
  obtain ⟨g40, hf⟩ := grd_e hf
  obtain ⟨h38, e39, hf⟩ := bd1_e hf
  refine g_putF (pc := 36) (ci := 4) (kk := 10) ty_Realm tyok_Realm nm_Realm dd_Realm_new_0.2.2.2.2.2.2.2.2.2.2.2.2.2.2.2.2.2.2.2.2.2.1 rfl in_Realm (by decide) wd_127 rfl rfl rfl (fun _ => rfl) (fun _ => rfl) (fun _ z => by cases z; omega) e39 ?_
  refine g_aload_n (pc := 39) 0 dd_Realm_new_0.2.2.2.2.2.2.2.2.2.2.2.2.2.2.2.2.2.2.2.2.2.2.1 rfl rfl ?_
  refine g_iconst (pc := 40) (3 : Int32) dd_Realm_new_0.2.2.2.2.2.2.2.2.2.2.2.2.2.2.2.2.2.2.2.2.2.2.2 (by decide) ?_
  obtain ⟨g41, hf⟩ := grd_e hf
  obtain ⟨h42, e43, hf⟩ := bd1_e hf
  obtain ⟨g44, e45⟩ := mkn_e e43
  refine g_newa (pc := 41) rfl 0 3 .int (3, .inl (fun _ => 0)) wd_92 rfl (fun _ => rfl) (fun _ _ _ a b => Option.some.inj (a.symm.trans b)) (fun _ => rfl) (fun _ => rfl) (fun _ z => absurd z id) (by decide) (by decide) (by decide) dd_Realm_new_41.1 g44 (okl_cons (okv_r (by omega)) (okl_nil)) (oks_cons (okv_r (by omega)) (oks_nil)) ?_
  rw [← e45]
  have h42_n : h42.1 = h38.1 + 1 := by rw [e45]; rfl
  obtain ⟨g48, hf⟩ := grd_e hf
  obtain ⟨h46, e47, hf⟩ := bd1_e hf
  refine g_putF (pc := 43) (ci := 4) (kk := 11) ty_Realm tyok_Realm nm_Realm dd_Realm_new_41.2.1 rfl in_Realm (by decide) wd_130 rfl rfl rfl (fun _ => rfl) (fun _ => rfl) (fun _ z => by cases z; omega) e47 ?_
  refine g_aload_n (pc := 46) 0 dd_Realm_new_41.2.2.1 rfl rfl ?_
  refine g_iconst (pc := 47) (3 : Int32) dd_Realm_new_41.2.2.2.1 (by decide) ?_
  obtain ⟨g49, hf⟩ := grd_e hf
  obtain ⟨h50, e51, hf⟩ := bd1_e hf
  obtain ⟨g52, e53⟩ := mkn_e e51
  refine g_newa (pc := 48) rfl 0 3 .int (3, .inl (fun _ => 0)) wd_92 rfl (fun _ => rfl) (fun _ _ _ a b => Option.some.inj (a.symm.trans b)) (fun _ => rfl) (fun _ => rfl) (fun _ z => absurd z id) (by decide) (by decide) (by decide) dd_Realm_new_41.2.2.2.2.1 g52 (okl_cons (okv_r (by omega)) (okl_nil)) (oks_cons (okv_r (by omega)) (oks_nil)) ?_
  rw [← e53]
  have h50_n : h50.1 = h46.1 + 1 := by rw [e53]; rfl
  obtain ⟨g56, hf⟩ := grd_e hf
  obtain ⟨h54, e55, hf⟩ := bd1_e hf
  refine g_putF (pc := 50) (ci := 4) (kk := 12) ty_Realm tyok_Realm nm_Realm dd_Realm_new_41.2.2.2.2.2.1 rfl in_Realm (by decide) wd_134 rfl rfl rfl (fun _ => rfl) (fun _ => rfl) (fun _ z => by cases z; omega) e55 ?_
  refine g_aload_n (pc := 53) 0 dd_Realm_new_41.2.2.2.2.2.2.1 rfl rfl ?_
  refine g_iconst (pc := 54) (3 : Int32) dd_Realm_new_41.2.2.2.2.2.2.2.1 (by decide) ?_
  obtain ⟨g57, hf⟩ := grd_e hf
  obtain ⟨h58, e59, hf⟩ := bd1_e hf
  obtain ⟨g60, e61⟩ := mkn_e e59
  refine g_newa (pc := 55) rfl 0 3 .int (3, .inl (fun _ => 0)) wd_92 rfl (fun _ => rfl) (fun _ _ _ a b => Option.some.inj (a.symm.trans b)) (fun _ => rfl) (fun _ => rfl) (fun _ z => absurd z id) (by decide) (by decide) (by decide) dd_Realm_new_41.2.2.2.2.2.2.2.2.1 g60 (okl_cons (okv_r (by omega)) (okl_nil)) (oks_cons (okv_r (by omega)) (oks_nil)) ?_
  rw [← e61]
  have h58_n : h58.1 = h54.1 + 1 := by rw [e61]; rfl
  obtain ⟨g64, hf⟩ := grd_e hf
  obtain ⟨h62, e63, hf⟩ := bd1_e hf
  refine g_putF (pc := 57) (ci := 4) (kk := 13) ty_Realm tyok_Realm nm_Realm dd_Realm_new_41.2.2.2.2.2.2.2.2.2.1 rfl in_Realm (by decide) wd_138 rfl rfl rfl (fun _ => rfl) (fun _ => rfl) (fun _ z => by cases z; omega) e63 ?_
  refine g_aload_n (pc := 60) 0 dd_Realm_new_41.2.2.2.2.2.2.2.2.2.2.1 rfl rfl ?_
  refine g_iconst (pc := 61) (3 : Int32) dd_Realm_new_41.2.2.2.2.2.2.2.2.2.2.2.1 (by decide) ?_
  obtain ⟨g65, hf⟩ := grd_e hf
  obtain ⟨h66, e67, hf⟩ := bd1_e hf
  obtain ⟨g68, e69⟩ := mkn_e e67
  refine g_newa (pc := 62) rfl 0 3 .int (3, .inl (fun _ => 0)) wd_92 rfl (fun _ => rfl) (fun _ _ _ a b => Option.some.inj (a.symm.trans b)) (fun _ => rfl) (fun _ => rfl) (fun _ z => absurd z id) (by decide) (by decide) (by decide) dd_Realm_new_41.2.2.2.2.2.2.2.2.2.2.2.2.1 g68 (okl_cons (okv_r (by omega)) (okl_nil)) (oks_cons (okv_r (by omega)) (oks_nil)) ?_
  rw [← e69]
  have h66_n : h66.1 = h62.1 + 1 := by rw [e69]; rfl
  obtain ⟨g72, hf⟩ := grd_e hf
  obtain ⟨h70, e71, hf⟩ := bd1_e hf
  refine g_putF (pc := 64) (ci := 4) (kk := 14) ty_Realm tyok_Realm nm_Realm dd_Realm_new_41.2.2.2.2.2.2.2.2.2.2.2.2.2.1 rfl in_Realm (by decide) wd_142 rfl rfl rfl (fun _ => rfl) (fun _ => rfl) (fun _ z => by cases z; omega) e71 ?_
  refine g_aload_n (pc := 67) 0 dd_Realm_new_41.2.2.2.2.2.2.2.2.2.2.2.2.2.2.1 rfl rfl ?_
  refine g_iconst (pc := 68) (3 : Int32) dd_Realm_new_41.2.2.2.2.2.2.2.2.2.2.2.2.2.2.2.1 (by decide) ?_
  obtain ⟨g73, hf⟩ := grd_e hf
  obtain ⟨h74, e75, hf⟩ := bd1_e hf
  obtain ⟨g76, e77⟩ := mkn_e e75
  refine g_newa (pc := 69) rfl 0 3 .int (3, .inl (fun _ => 0)) wd_92 rfl (fun _ => rfl) (fun _ _ _ a b => Option.some.inj (a.symm.trans b)) (fun _ => rfl) (fun _ => rfl) (fun _ z => absurd z id) (by decide) (by decide) (by decide) dd_Realm_new_41.2.2.2.2.2.2.2.2.2.2.2.2.2.2.2.2.1 g76 (okl_cons (okv_r (by omega)) (okl_nil)) (oks_cons (okv_r (by omega)) (oks_nil)) ?_
  rw [← e77]
  have h74_n : h74.1 = h70.1 + 1 := by rw [e77]; rfl
  obtain ⟨g80, hf⟩ := grd_e hf
  obtain ⟨h78, e79, hf⟩ := bd1_e hf
  refine g_putF (pc := 71) (ci := 4) (kk := 15) ty_Realm tyok_Realm nm_Realm dd_Realm_new_41.2.2.2.2.2.2.2.2.2.2.2.2.2.2.2.2.2.1 rfl in_Realm (by decide) wd_145 rfl rfl rfl (fun _ => rfl) (fun _ => rfl) (fun _ z => by cases z; omega) e79 ?_
  refine g_aload_n (pc := 74) 0 dd_Realm_new_41.2.2.2.2.2.2.2.2.2.2.2.2.2.2.2.2.2.2.1 rfl rfl ?_
  refine g_iconst (pc := 75) (3 : Int32) dd_Realm_new_41.2.2.2.2.2.2.2.2.2.2.2.2.2.2.2.2.2.2.2.1 (by decide) ?_
  obtain ⟨g81, hf⟩ := grd_e hf
  obtain ⟨h82, e83, hf⟩ := bd1_e hf
  obtain ⟨g84, e85⟩ := mkn_e e83
  refine g_newa (pc := 76) rfl 0 3 .int (3, .inl (fun _ => 0)) wd_92 rfl (fun _ => rfl) (fun _ _ _ a b => Option.some.inj (a.symm.trans b)) (fun _ => rfl) (fun _ => rfl) (fun _ z => absurd z id) (by decide) (by decide) (by decide) dd_Realm_new_41.2.2.2.2.2.2.2.2.2.2.2.2.2.2.2.2.2.2.2.2.1 g84 (okl_cons (okv_r (by omega)) (okl_nil)) (oks_cons (okv_r (by omega)) (oks_nil)) ?_
  rw [← e85]
  have h82_n : h82.1 = h78.1 + 1 := by rw [e85]; rfl
  obtain ⟨g88, hf⟩ := grd_e hf
  obtain ⟨h86, e87, hf⟩ := bd1_e hf
  refine g_putF (pc := 78) (ci := 4) (kk := 16) ty_Realm tyok_Realm nm_Realm dd_Realm_new_41.2.2.2.2.2.2.2.2.2.2.2.2.2.2.2.2.2.2.2.2.2.1 rfl in_Realm (by decide) wd_149 rfl rfl rfl (fun _ => rfl) (fun _ => rfl) (fun _ z => by cases z; omega) e87 ?_
  refine g_aload_n (pc := 81) 0 dd_Realm_new_41.2.2.2.2.2.2.2.2.2.2.2.2.2.2.2.2.2.2.2.2.2.2.1 rfl rfl ?_
  refine g_bipush (pc := 82) (15 : Int32) dd_Realm_new_41.2.2.2.2.2.2.2.2.2.2.2.2.2.2.2.2.2.2.2.2.2.2.2 (by decide) ?_
  obtain ⟨g89, hf⟩ := grd_e hf
  obtain ⟨h90, e91, hf⟩ := bd1_e hf
  obtain ⟨g92, e93⟩ := mkn_e e91
  refine g_newa (pc := 84) rfl 0 15 .int (15, .inl (fun _ => 0)) wd_92 rfl (fun _ => rfl) (fun _ _ _ a b => Option.some.inj (a.symm.trans b)) (fun _ => rfl) (fun _ => rfl) (fun _ z => absurd z id) (by decide) (by decide) (by decide) dd_Realm_new_84.1 g92 (okl_cons (okv_r (by omega)) (okl_nil)) (oks_cons (okv_r (by omega)) (oks_nil)) ?_
  rw [← e93]
  have h90_n : h90.1 = h86.1 + 1 := by rw [e93]; rfl
  obtain ⟨g96, hf⟩ := grd_e hf
  obtain ⟨h94, e95, hf⟩ := bd1_e hf
  refine g_putF (pc := 86) (ci := 4) (kk := 17) ty_Realm tyok_Realm nm_Realm dd_Realm_new_84.2.1 rfl in_Realm (by decide) wd_152 rfl rfl rfl (fun _ => rfl) (fun _ => rfl) (fun _ z => by cases z; omega) e95 ?_
  refine g_aload_n (pc := 89) 0 dd_Realm_new_84.2.2.1 rfl rfl ?_
  obtain ⟨g97, hf⟩ := grd_e hf
  obtain ⟨h98, e99, hf⟩ := bd1_e hf
  obtain ⟨g100, e101⟩ := mkn_e e99
  refine g_new (pc := 90) (ci := 6) rfl [.int 0, .null, .null, .null] ty_Sightings tyok_Sightings dd_Realm_new_84.2.2.2.1 rfl in_Sightings wd_71 wd_72 wd_4 (by decide) (by simp) g100 (okl_cons (okv_r (by omega)) (okl_nil)) (oks_cons (okv_r (by omega)) (oks_nil)) ?_
  rw [← e101]
  have h98_n : h98.1 = h94.1 + 1 := by rw [e101]; rfl
  refine g_dup (pc := 93) dd_Realm_new_84.2.2.2.2.1 rfl ?_
  obtain ⟨⟨g102, g103⟩, hf⟩ := grd_e hf
  obtain ⟨h104, e105, hf⟩ := bd1_e hf
  refine g_callIN (pc := 94) "QuotaLaws" [] (site_of si_Sightings_new (by decide) (by decide)) rfl wd_73 wd_74 dd_Realm_new_84.2.2.2.2.2.1 (Nat.le_of_ble_eq_true rfl) (fun _ => rfl) (fun _ => (okl_cons (okv_r (by omega)) (okl_nil))) (fun _ => (oks_cons (okv_r (by omega)) (oks_cons (okv_r (by omega)) (oks_nil)))) (c_Sightings_new e105) rfl ?_
  refine g_st [.ref h94.1, .ref a0] rfl ?_
  obtain ⟨g108, hf⟩ := grd_e hf
  obtain ⟨h106, e107, hf⟩ := bd1_e hf
  refine g_putF (pc := 97) (ci := 4) (kk := 18) ty_Realm tyok_Realm nm_Realm dd_Realm_new_84.2.2.2.2.2.2.1 rfl in_Realm (by decide) wd_153 rfl rfl rfl (fun _ => rfl) (fun _ => rfl) (fun _ z => by cases z; omega) e107 ?_
  obtain rfl := ret1 hf
  exact g_vret (pc := 100) rfl dd_Realm_new_84.2.2.2.2.2.2.2
def f_Realm_new (a0 : Nat) (h : mH) : Option mH := f_Realm_new_0 a0 h
theorem c_Realm_new {sc : Nat × (Nat → Int32)} {a0 : Nat} {h : mH} {h' : mH} (hf : f_Realm_new a0 h = some h') : MM sc y_Realm_new prog_5_method_1_code 1 none 2 40 [.ref a0] h none h' :=
  mm_of_G si_pn_Realm (Nat.le_of_ble_eq_true rfl) (t_Realm_new_0 _ _ _ hf)
/-! Planner init ()V -/
set_option maxRecDepth 100000 in
theorem dd_Planner_new_0 : (decode prog_3_method_1_code 0 = .ok (.aload_n 0, 1)) ∧ (decode prog_3_method_1_code 1 = .ok (.invokespecial 3, 3)) ∧ (decode prog_3_method_1_code 4 = .ok (.aload_n 0, 1)) ∧ (decode prog_3_method_1_code 5 = .ok (.iconst 3, 1)) ∧ (decode prog_3_method_1_code 6 = .ok (.newarray .int, 2)) ∧ (decode prog_3_method_1_code 8 = .ok (.putfield 9, 3)) ∧ (decode prog_3_method_1_code 11 = .ok (.aload_n 0, 1)) ∧ (decode prog_3_method_1_code 12 = .ok (.iconst 5, 1)) ∧ (decode prog_3_method_1_code 13 = .ok (.newarray .int, 2)) ∧ (decode prog_3_method_1_code 15 = .ok (.putfield 15, 3)) ∧ (decode prog_3_method_1_code 18 = .ok (.aload_n 0, 1)) ∧ (decode prog_3_method_1_code 19 = .ok (.bipush 6, 2)) ∧ (decode prog_3_method_1_code 21 = .ok (.newarray .int, 2)) ∧ (decode prog_3_method_1_code 23 = .ok (.putfield 18, 3)) ∧ (decode prog_3_method_1_code 26 = .ok (.aload_n 0, 1)) ∧ (decode prog_3_method_1_code 27 = .ok (.bipush 15, 2)) ∧ (decode prog_3_method_1_code 29 = .ok (.newarray .int, 2)) ∧ (decode prog_3_method_1_code 31 = .ok (.putfield 21, 3)) ∧ (decode prog_3_method_1_code 34 = .ok (.aload_n 0, 1)) ∧ (decode prog_3_method_1_code 35 = .ok (.bipush 15, 2)) ∧ (decode prog_3_method_1_code 37 = .ok (.newarray .int, 2)) ∧ (decode prog_3_method_1_code 39 = .ok (.putfield 24, 3)) ∧ (decode prog_3_method_1_code 42 = .ok (.aload_n 0, 1)) ∧ (decode prog_3_method_1_code 43 = .ok (.bipush 15, 2)) := by
  have h : List.drop 0 prog_3_method_1_code.data.toList = 0x2a :: _ := rfl
  refine ⟨zq_k_n 42 h rfl (zq_o_42 _), ?_⟩
  replace h := zq_nx1 (q := 1) h rfl
  refine ⟨zq_k_u2 183 (fun z => .invokespecial z) 3 h rfl (zq_o_183 _) (by decide +kernel), ?_⟩
  replace h := zq_nx3 (q := 4) h rfl
  refine ⟨zq_k_n 42 h rfl (zq_o_42 _), ?_⟩
  replace h := zq_nx1 (q := 5) h rfl
  refine ⟨zq_k_n 6 h rfl (zq_o_6 _), ?_⟩
  replace h := zq_nx1 (q := 6) h rfl
  refine ⟨by decide +kernel, ?_⟩
  have h : List.drop 8 prog_3_method_1_code.data.toList = 0xb5 :: _ := rfl
  refine ⟨zq_k_u2 181 (fun z => .putfield z) 9 h rfl (zq_o_181 _) (by decide +kernel), ?_⟩
  replace h := zq_nx3 (q := 11) h rfl
  refine ⟨zq_k_n 42 h rfl (zq_o_42 _), ?_⟩
  replace h := zq_nx1 (q := 12) h rfl
  refine ⟨zq_k_n 8 h rfl (zq_o_8 _), ?_⟩
  replace h := zq_nx1 (q := 13) h rfl
  refine ⟨by decide +kernel, ?_⟩
  have h : List.drop 15 prog_3_method_1_code.data.toList = 0xb5 :: _ := rfl
  refine ⟨zq_k_u2 181 (fun z => .putfield z) 15 h rfl (zq_o_181 _) (by decide +kernel), ?_⟩
  replace h := zq_nx3 (q := 18) h rfl
  refine ⟨zq_k_n 42 h rfl (zq_o_42 _), ?_⟩
  replace h := zq_nx1 (q := 19) h rfl
  refine ⟨zq_k_s1 16 (fun z => .bipush z) 6 h rfl (zq_o_16 _) (by decide +kernel), ?_⟩
  replace h := zq_nx2 (q := 21) h rfl
  refine ⟨by decide +kernel, ?_⟩
  have h : List.drop 23 prog_3_method_1_code.data.toList = 0xb5 :: _ := rfl
  refine ⟨zq_k_u2 181 (fun z => .putfield z) 18 h rfl (zq_o_181 _) (by decide +kernel), ?_⟩
  replace h := zq_nx3 (q := 26) h rfl
  refine ⟨zq_k_n 42 h rfl (zq_o_42 _), ?_⟩
  replace h := zq_nx1 (q := 27) h rfl
  refine ⟨zq_k_s1 16 (fun z => .bipush z) 15 h rfl (zq_o_16 _) (by decide +kernel), ?_⟩
  replace h := zq_nx2 (q := 29) h rfl
  refine ⟨by decide +kernel, ?_⟩
  have h : List.drop 31 prog_3_method_1_code.data.toList = 0xb5 :: _ := rfl
  refine ⟨zq_k_u2 181 (fun z => .putfield z) 21 h rfl (zq_o_181 _) (by decide +kernel), ?_⟩
  replace h := zq_nx3 (q := 34) h rfl
  refine ⟨zq_k_n 42 h rfl (zq_o_42 _), ?_⟩
  replace h := zq_nx1 (q := 35) h rfl
  refine ⟨zq_k_s1 16 (fun z => .bipush z) 15 h rfl (zq_o_16 _) (by decide +kernel), ?_⟩
  replace h := zq_nx2 (q := 37) h rfl
  refine ⟨by decide +kernel, ?_⟩
  have h : List.drop 39 prog_3_method_1_code.data.toList = 0xb5 :: _ := rfl
  refine ⟨zq_k_u2 181 (fun z => .putfield z) 24 h rfl (zq_o_181 _) (by decide +kernel), ?_⟩
  replace h := zq_nx3 (q := 42) h rfl
  refine ⟨zq_k_n 42 h rfl (zq_o_42 _), ?_⟩
  replace h := zq_nx1 (q := 43) h rfl
  exact zq_k_s1 16 (fun z => .bipush z) 15 h rfl (zq_o_16 _) (by decide +kernel)
set_option maxRecDepth 100000 in
theorem dd_Planner_new_45 : (decode prog_3_method_1_code 45 = .ok (.newarray .int, 2)) ∧ (decode prog_3_method_1_code 47 = .ok (.putfield 27, 3)) ∧ (decode prog_3_method_1_code 50 = .ok (.aload_n 0, 1)) ∧ (decode prog_3_method_1_code 51 = .ok (.sipush 216, 3)) ∧ (decode prog_3_method_1_code 54 = .ok (.newarray .int, 2)) ∧ (decode prog_3_method_1_code 56 = .ok (.putfield 30, 3)) ∧ (decode prog_3_method_1_code 59 = .ok (.return_, 1)) := by
  refine ⟨by decide +kernel, ?_⟩
  have h : List.drop 47 prog_3_method_1_code.data.toList = 0xb5 :: _ := rfl
  refine ⟨zq_k_u2 181 (fun z => .putfield z) 27 h rfl (zq_o_181 _) (by decide +kernel), ?_⟩
  replace h := zq_nx3 (q := 50) h rfl
  refine ⟨zq_k_n 42 h rfl (zq_o_42 _), ?_⟩
  replace h := zq_nx1 (q := 51) h rfl
  refine ⟨zq_k_s2 17 (fun z => .sipush z) 216 h rfl (zq_o_17 _) (by decide +kernel), ?_⟩
  replace h := zq_nx3 (q := 54) h rfl
  refine ⟨by decide +kernel, ?_⟩
  have h : List.drop 56 prog_3_method_1_code.data.toList = 0xb5 :: _ := rfl
  refine ⟨zq_k_u2 181 (fun z => .putfield z) 30 h rfl (zq_o_181 _) (by decide +kernel), ?_⟩
  replace h := zq_nx3 (q := 59) h rfl
  exact zq_k_n 177 h rfl (zq_o_177 _)
def f_Planner_new_0  (a0 : Nat) (h : mH) : Option mH :=
  grd (¬ a0 = h.1) <|
  bd1 (mkn h 3 (.inl (0, (3, .inl (fun _ => 0))))) fun h2 =>
  grd (h.1 < h2.1) <|
  bd1 (pV h2 a0 2 1 (.ref h.1)) fun h6 =>
  grd (¬ a0 = h6.1) <|
  bd1 (mkn h6 5 (.inl (0, (5, .inl (fun _ => 0))))) fun h10 =>
  grd (h6.1 < h10.1) <|
  bd1 (pV h10 a0 2 2 (.ref h6.1)) fun h14 =>
  grd (¬ a0 = h14.1) <|
  bd1 (mkn h14 6 (.inl (0, (6, .inl (fun _ => 0))))) fun h18 =>
  grd (h14.1 < h18.1) <|
  bd1 (pV h18 a0 2 3 (.ref h14.1)) fun h22 =>
  grd (¬ a0 = h22.1) <|
  bd1 (mkn h22 15 (.inl (0, (15, .inl (fun _ => 0))))) fun h26 =>
  grd (h22.1 < h26.1) <|
  bd1 (pV h26 a0 2 4 (.ref h22.1)) fun h30 =>
  grd (¬ a0 = h30.1) <|
  bd1 (mkn h30 15 (.inl (0, (15, .inl (fun _ => 0))))) fun h34 =>
  grd (h30.1 < h34.1) <|
  bd1 (pV h34 a0 2 5 (.ref h30.1)) fun h38 =>
  grd (¬ a0 = h38.1) <|
  bd1 (mkn h38 15 (.inl (0, (15, .inl (fun _ => 0))))) fun h42 =>
  grd (h38.1 < h42.1) <|
  bd1 (pV h42 a0 2 6 (.ref h38.1)) fun h46 =>
  grd (¬ a0 = h46.1) <|
  bd1 (mkn h46 216 (.inl (0, (216, .inl (fun _ => 0))))) fun h50 =>
  grd (h46.1 < h50.1) <|
  bd1 (pV h50 a0 2 7 (.ref h46.1)) fun h54 =>
  some h54
set_option maxRecDepth 20000 in
theorem t_Planner_new_0 {sc : Nat × (Nat → Int32)}  (a0 : Nat) (h : mH) (h' : mH) (hf : f_Planner_new_0  a0 h = some h') : G sc y_Planner_new prog_3_method_1_code 1 none 1 20 0 [(0, .ref a0)] [] h none h' := by
  unfold f_Planner_new_0 at hf
  refine g_aload_n (pc := 0) 0 dd_Planner_new_0.1 rfl rfl ?_
  refine g_objInit (pc := 1) dd_Planner_new_0.2.1 wd_203 wd_24 wd_25 (by decide) (Nat.le_of_ble_eq_true rfl) ?_
  refine g_aload_n (pc := 4) 0 dd_Planner_new_0.2.2.1 rfl rfl ?_
  refine g_iconst (pc := 5) (3 : Int32) dd_Planner_new_0.2.2.2.1 (by decide) ?_
  obtain ⟨g1, hf⟩ := grd_e hf
  obtain ⟨h2, e3, hf⟩ := bd1_e hf
  obtain ⟨g4, e5⟩ := mkn_e e3
  refine g_newa (pc := 6) rfl 0 3 .int (3, .inl (fun _ => 0)) wd_92 rfl (fun _ => rfl) (fun _ _ _ a b => Option.some.inj (a.symm.trans b)) (fun _ => rfl) (fun _ => rfl) (fun _ z => absurd z id) (by decide) (by decide) (by decide) dd_Planner_new_0.2.2.2.2.1 g4 (okl_cons (okv_r (by omega)) (okl_nil)) (oks_cons (okv_r (by omega)) (oks_nil)) ?_
  rw [← e5]
  have h2_n : h2.1 = h.1 + 1 := by rw [e5]; rfl
  obtain ⟨g8, hf⟩ := grd_e hf
  obtain ⟨h6, e7, hf⟩ := bd1_e hf
  refine g_putF (pc := 8) (ci := 2) (kk := 1) ty_Planner tyok_Planner nm_Planner dd_Planner_new_0.2.2.2.2.2.1 rfl in_Planner (by decide) wd_205 rfl rfl rfl (fun _ => rfl) (fun _ => rfl) (fun _ z => by cases z; omega) e7 ?_
  refine g_aload_n (pc := 11) 0 dd_Planner_new_0.2.2.2.2.2.2.1 rfl rfl ?_
  refine g_iconst (pc := 12) (5 : Int32) dd_Planner_new_0.2.2.2.2.2.2.2.1 (by decide) ?_
  obtain ⟨g9, hf⟩ := grd_e hf
  obtain ⟨h10, e11, hf⟩ := bd1_e hf
  obtain ⟨g12, e13⟩ := mkn_e e11
  refine g_newa (pc := 13) rfl 0 5 .int (5, .inl (fun _ => 0)) wd_92 rfl (fun _ => rfl) (fun _ _ _ a b => Option.some.inj (a.symm.trans b)) (fun _ => rfl) (fun _ => rfl) (fun _ z => absurd z id) (by decide) (by decide) (by decide) dd_Planner_new_0.2.2.2.2.2.2.2.2.1 g12 (okl_cons (okv_r (by omega)) (okl_nil)) (oks_cons (okv_r (by omega)) (oks_nil)) ?_
  rw [← e13]
  have h10_n : h10.1 = h6.1 + 1 := by rw [e13]; rfl
  obtain ⟨g16, hf⟩ := grd_e hf
  obtain ⟨h14, e15, hf⟩ := bd1_e hf
  refine g_putF (pc := 15) (ci := 2) (kk := 2) ty_Planner tyok_Planner nm_Planner dd_Planner_new_0.2.2.2.2.2.2.2.2.2.1 rfl in_Planner (by decide) wd_206 rfl rfl rfl (fun _ => rfl) (fun _ => rfl) (fun _ z => by cases z; omega) e15 ?_
  refine g_aload_n (pc := 18) 0 dd_Planner_new_0.2.2.2.2.2.2.2.2.2.2.1 rfl rfl ?_
  refine g_bipush (pc := 19) (6 : Int32) dd_Planner_new_0.2.2.2.2.2.2.2.2.2.2.2.1 (by decide) ?_
  obtain ⟨g17, hf⟩ := grd_e hf
  obtain ⟨h18, e19, hf⟩ := bd1_e hf
  obtain ⟨g20, e21⟩ := mkn_e e19
  refine g_newa (pc := 21) rfl 0 6 .int (6, .inl (fun _ => 0)) wd_92 rfl (fun _ => rfl) (fun _ _ _ a b => Option.some.inj (a.symm.trans b)) (fun _ => rfl) (fun _ => rfl) (fun _ z => absurd z id) (by decide) (by decide) (by decide) dd_Planner_new_0.2.2.2.2.2.2.2.2.2.2.2.2.1 g20 (okl_cons (okv_r (by omega)) (okl_nil)) (oks_cons (okv_r (by omega)) (oks_nil)) ?_
  rw [← e21]
  have h18_n : h18.1 = h14.1 + 1 := by rw [e21]; rfl
  obtain ⟨g24, hf⟩ := grd_e hf
  obtain ⟨h22, e23, hf⟩ := bd1_e hf
  refine g_putF (pc := 23) (ci := 2) (kk := 3) ty_Planner tyok_Planner nm_Planner dd_Planner_new_0.2.2.2.2.2.2.2.2.2.2.2.2.2.1 rfl in_Planner (by decide) wd_207 rfl rfl rfl (fun _ => rfl) (fun _ => rfl) (fun _ z => by cases z; omega) e23 ?_
  refine g_aload_n (pc := 26) 0 dd_Planner_new_0.2.2.2.2.2.2.2.2.2.2.2.2.2.2.1 rfl rfl ?_
  refine g_bipush (pc := 27) (15 : Int32) dd_Planner_new_0.2.2.2.2.2.2.2.2.2.2.2.2.2.2.2.1 (by decide) ?_
  obtain ⟨g25, hf⟩ := grd_e hf
  obtain ⟨h26, e27, hf⟩ := bd1_e hf
  obtain ⟨g28, e29⟩ := mkn_e e27
  refine g_newa (pc := 29) rfl 0 15 .int (15, .inl (fun _ => 0)) wd_92 rfl (fun _ => rfl) (fun _ _ _ a b => Option.some.inj (a.symm.trans b)) (fun _ => rfl) (fun _ => rfl) (fun _ z => absurd z id) (by decide) (by decide) (by decide) dd_Planner_new_0.2.2.2.2.2.2.2.2.2.2.2.2.2.2.2.2.1 g28 (okl_cons (okv_r (by omega)) (okl_nil)) (oks_cons (okv_r (by omega)) (oks_nil)) ?_
  rw [← e29]
  have h26_n : h26.1 = h22.1 + 1 := by rw [e29]; rfl
  obtain ⟨g32, hf⟩ := grd_e hf
  obtain ⟨h30, e31, hf⟩ := bd1_e hf
  refine g_putF (pc := 31) (ci := 2) (kk := 4) ty_Planner tyok_Planner nm_Planner dd_Planner_new_0.2.2.2.2.2.2.2.2.2.2.2.2.2.2.2.2.2.1 rfl in_Planner (by decide) wd_208 rfl rfl rfl (fun _ => rfl) (fun _ => rfl) (fun _ z => by cases z; omega) e31 ?_
  refine g_aload_n (pc := 34) 0 dd_Planner_new_0.2.2.2.2.2.2.2.2.2.2.2.2.2.2.2.2.2.2.1 rfl rfl ?_
  refine g_bipush (pc := 35) (15 : Int32) dd_Planner_new_0.2.2.2.2.2.2.2.2.2.2.2.2.2.2.2.2.2.2.2.1 (by decide) ?_
  obtain ⟨g33, hf⟩ := grd_e hf
  obtain ⟨h34, e35, hf⟩ := bd1_e hf
  obtain ⟨g36, e37⟩ := mkn_e e35
  refine g_newa (pc := 37) rfl 0 15 .int (15, .inl (fun _ => 0)) wd_92 rfl (fun _ => rfl) (fun _ _ _ a b => Option.some.inj (a.symm.trans b)) (fun _ => rfl) (fun _ => rfl) (fun _ z => absurd z id) (by decide) (by decide) (by decide) dd_Planner_new_0.2.2.2.2.2.2.2.2.2.2.2.2.2.2.2.2.2.2.2.2.1 g36 (okl_cons (okv_r (by omega)) (okl_nil)) (oks_cons (okv_r (by omega)) (oks_nil)) ?_
  rw [← e37]
  have h34_n : h34.1 = h30.1 + 1 := by rw [e37]; rfl
  obtain ⟨g40, hf⟩ := grd_e hf
  obtain ⟨h38, e39, hf⟩ := bd1_e hf
  refine g_putF (pc := 39) (ci := 2) (kk := 5) ty_Planner tyok_Planner nm_Planner dd_Planner_new_0.2.2.2.2.2.2.2.2.2.2.2.2.2.2.2.2.2.2.2.2.2.1 rfl in_Planner (by decide) wd_209 rfl rfl rfl (fun _ => rfl) (fun _ => rfl) (fun _ z => by cases z; omega) e39 ?_
  refine g_aload_n (pc := 42) 0 dd_Planner_new_0.2.2.2.2.2.2.2.2.2.2.2.2.2.2.2.2.2.2.2.2.2.2.1 rfl rfl ?_
  refine g_bipush (pc := 43) (15 : Int32) dd_Planner_new_0.2.2.2.2.2.2.2.2.2.2.2.2.2.2.2.2.2.2.2.2.2.2.2 (by decide) ?_
  obtain ⟨g41, hf⟩ := grd_e hf
  obtain ⟨h42, e43, hf⟩ := bd1_e hf
  obtain ⟨g44, e45⟩ := mkn_e e43
  refine g_newa (pc := 45) rfl 0 15 .int (15, .inl (fun _ => 0)) wd_92 rfl (fun _ => rfl) (fun _ _ _ a b => Option.some.inj (a.symm.trans b)) (fun _ => rfl) (fun _ => rfl) (fun _ z => absurd z id) (by decide) (by decide) (by decide) dd_Planner_new_45.1 g44 (okl_cons (okv_r (by omega)) (okl_nil)) (oks_cons (okv_r (by omega)) (oks_nil)) ?_
  rw [← e45]
  have h42_n : h42.1 = h38.1 + 1 := by rw [e45]; rfl
  obtain ⟨g48, hf⟩ := grd_e hf
  obtain ⟨h46, e47, hf⟩ := bd1_e hf
  refine g_putF (pc := 47) (ci := 2) (kk := 6) ty_Planner tyok_Planner nm_Planner dd_Planner_new_45.2.1 rfl in_Planner (by decide) wd_210 rfl rfl rfl (fun _ => rfl) (fun _ => rfl) (fun _ z => by cases z; omega) e47 ?_
  refine g_aload_n (pc := 50) 0 dd_Planner_new_45.2.2.1 rfl rfl ?_
  refine g_sipush (pc := 51) (216 : Int32) dd_Planner_new_45.2.2.2.1 (by decide) ?_
  obtain ⟨g49, hf⟩ := grd_e hf
  obtain ⟨h50, e51, hf⟩ := bd1_e hf
  obtain ⟨g52, e53⟩ := mkn_e e51
  refine g_newa (pc := 54) rfl 0 216 .int (216, .inl (fun _ => 0)) wd_92 rfl (fun _ => rfl) (fun _ _ _ a b => Option.some.inj (a.symm.trans b)) (fun _ => rfl) (fun _ => rfl) (fun _ z => absurd z id) (by decide) (by decide) (by decide) dd_Planner_new_45.2.2.2.2.1 g52 (okl_cons (okv_r (by omega)) (okl_nil)) (oks_cons (okv_r (by omega)) (oks_nil)) ?_
  rw [← e53]
  have h50_n : h50.1 = h46.1 + 1 := by rw [e53]; rfl
  obtain ⟨g56, hf⟩ := grd_e hf
  obtain ⟨h54, e55, hf⟩ := bd1_e hf
  refine g_putF (pc := 56) (ci := 2) (kk := 7) ty_Planner tyok_Planner nm_Planner dd_Planner_new_45.2.2.2.2.2.1 rfl in_Planner (by decide) wd_211 rfl rfl rfl (fun _ => rfl) (fun _ => rfl) (fun _ z => by cases z; omega) e55 ?_
  obtain rfl := ret1 hf
  exact g_vret (pc := 59) rfl dd_Planner_new_45.2.2.2.2.2.2
def f_Planner_new (a0 : Nat) (h : mH) : Option mH := f_Planner_new_0 a0 h
theorem c_Planner_new {sc : Nat × (Nat → Int32)} {a0 : Nat} {h : mH} {h' : mH} (hf : f_Planner_new a0 h = some h') : MM sc y_Planner_new prog_3_method_1_code 1 none 1 20 [.ref a0] h none h' :=
  mm_of_G si_pn_Planner (Nat.le_of_ble_eq_true rfl) (t_Planner_new_0 _ _ _ hf)
/-! Tables init ()V -/
set_option maxRecDepth 100000 in
theorem dd_Tables_new_0 : (decode prog_8_method_1_code 0 = .ok (.aload_n 0, 1)) ∧ (decode prog_8_method_1_code 1 = .ok (.invokespecial 3, 3)) ∧ (decode prog_8_method_1_code 4 = .ok (.aload_n 0, 1)) ∧ (decode prog_8_method_1_code 5 = .ok (.bipush 15, 2)) ∧ (decode prog_8_method_1_code 7 = .ok (.newarray .int, 2)) ∧ (decode prog_8_method_1_code 9 = .ok (.putfield 9, 3)) ∧ (decode prog_8_method_1_code 12 = .ok (.aload_n 0, 1)) ∧ (decode prog_8_method_1_code 13 = .ok (.bipush 15, 2)) ∧ (decode prog_8_method_1_code 15 = .ok (.newarray .int, 2)) ∧ (decode prog_8_method_1_code 17 = .ok (.putfield 15, 3)) ∧ (decode prog_8_method_1_code 20 = .ok (.aload_n 0, 1)) ∧ (decode prog_8_method_1_code 21 = .ok (.iconst 5, 1)) ∧ (decode prog_8_method_1_code 22 = .ok (.newarray .int, 2)) ∧ (decode prog_8_method_1_code 24 = .ok (.putfield 18, 3)) ∧ (decode prog_8_method_1_code 27 = .ok (.aload_n 0, 1)) ∧ (decode prog_8_method_1_code 28 = .ok (.iconst 3, 1)) ∧ (decode prog_8_method_1_code 29 = .ok (.newarray .int, 2)) ∧ (decode prog_8_method_1_code 31 = .ok (.putfield 21, 3)) ∧ (decode prog_8_method_1_code 34 = .ok (.aload_n 0, 1)) ∧ (decode prog_8_method_1_code 35 = .ok (.iconst 3, 1)) ∧ (decode prog_8_method_1_code 36 = .ok (.newarray .int, 2)) ∧ (decode prog_8_method_1_code 38 = .ok (.putfield 24, 3)) ∧ (decode prog_8_method_1_code 41 = .ok (.aload_n 0, 1)) ∧ (decode prog_8_method_1_code 42 = .ok (.bipush 18, 2)) := by
  have h : List.drop 0 prog_8_method_1_code.data.toList = 0x2a :: _ := rfl
  refine ⟨zq_k_n 42 h rfl (zq_o_42 _), ?_⟩
  replace h := zq_nx1 (q := 1) h rfl
  refine ⟨zq_k_u2 183 (fun z => .invokespecial z) 3 h rfl (zq_o_183 _) (by decide +kernel), ?_⟩
  replace h := zq_nx3 (q := 4) h rfl
  refine ⟨zq_k_n 42 h rfl (zq_o_42 _), ?_⟩
  replace h := zq_nx1 (q := 5) h rfl
  refine ⟨zq_k_s1 16 (fun z => .bipush z) 15 h rfl (zq_o_16 _) (by decide +kernel), ?_⟩
  replace h := zq_nx2 (q := 7) h rfl
  refine ⟨by decide +kernel, ?_⟩
  have h : List.drop 9 prog_8_method_1_code.data.toList = 0xb5 :: _ := rfl
  refine ⟨zq_k_u2 181 (fun z => .putfield z) 9 h rfl (zq_o_181 _) (by decide +kernel), ?_⟩
  replace h := zq_nx3 (q := 12) h rfl
  refine ⟨zq_k_n 42 h rfl (zq_o_42 _), ?_⟩
  replace h := zq_nx1 (q := 13) h rfl
  refine ⟨zq_k_s1 16 (fun z => .bipush z) 15 h rfl (zq_o_16 _) (by decide +kernel), ?_⟩
  replace h := zq_nx2 (q := 15) h rfl
  refine ⟨by decide +kernel, ?_⟩
  have h : List.drop 17 prog_8_method_1_code.data.toList = 0xb5 :: _ := rfl
  refine ⟨zq_k_u2 181 (fun z => .putfield z) 15 h rfl (zq_o_181 _) (by decide +kernel), ?_⟩
  replace h := zq_nx3 (q := 20) h rfl
  refine ⟨zq_k_n 42 h rfl (zq_o_42 _), ?_⟩
  replace h := zq_nx1 (q := 21) h rfl
  refine ⟨zq_k_n 8 h rfl (zq_o_8 _), ?_⟩
  replace h := zq_nx1 (q := 22) h rfl
  refine ⟨by decide +kernel, ?_⟩
  have h : List.drop 24 prog_8_method_1_code.data.toList = 0xb5 :: _ := rfl
  refine ⟨zq_k_u2 181 (fun z => .putfield z) 18 h rfl (zq_o_181 _) (by decide +kernel), ?_⟩
  replace h := zq_nx3 (q := 27) h rfl
  refine ⟨zq_k_n 42 h rfl (zq_o_42 _), ?_⟩
  replace h := zq_nx1 (q := 28) h rfl
  refine ⟨zq_k_n 6 h rfl (zq_o_6 _), ?_⟩
  replace h := zq_nx1 (q := 29) h rfl
  refine ⟨by decide +kernel, ?_⟩
  have h : List.drop 31 prog_8_method_1_code.data.toList = 0xb5 :: _ := rfl
  refine ⟨zq_k_u2 181 (fun z => .putfield z) 21 h rfl (zq_o_181 _) (by decide +kernel), ?_⟩
  replace h := zq_nx3 (q := 34) h rfl
  refine ⟨zq_k_n 42 h rfl (zq_o_42 _), ?_⟩
  replace h := zq_nx1 (q := 35) h rfl
  refine ⟨zq_k_n 6 h rfl (zq_o_6 _), ?_⟩
  replace h := zq_nx1 (q := 36) h rfl
  refine ⟨by decide +kernel, ?_⟩
  have h : List.drop 38 prog_8_method_1_code.data.toList = 0xb5 :: _ := rfl
  refine ⟨zq_k_u2 181 (fun z => .putfield z) 24 h rfl (zq_o_181 _) (by decide +kernel), ?_⟩
  replace h := zq_nx3 (q := 41) h rfl
  refine ⟨zq_k_n 42 h rfl (zq_o_42 _), ?_⟩
  replace h := zq_nx1 (q := 42) h rfl
  exact zq_k_s1 16 (fun z => .bipush z) 18 h rfl (zq_o_16 _) (by decide +kernel)
set_option maxRecDepth 100000 in
theorem dd_Tables_new_44 : (decode prog_8_method_1_code 44 = .ok (.newarray .long, 2)) ∧ (decode prog_8_method_1_code 46 = .ok (.putfield 27, 3)) ∧ (decode prog_8_method_1_code 49 = .ok (.aload_n 0, 1)) ∧ (decode prog_8_method_1_code 50 = .ok (.sipush 216, 3)) ∧ (decode prog_8_method_1_code 53 = .ok (.newarray .long, 2)) ∧ (decode prog_8_method_1_code 55 = .ok (.putfield 31, 3)) ∧ (decode prog_8_method_1_code 58 = .ok (.return_, 1)) := by
  refine ⟨by decide +kernel, ?_⟩
  have h : List.drop 46 prog_8_method_1_code.data.toList = 0xb5 :: _ := rfl
  refine ⟨zq_k_u2 181 (fun z => .putfield z) 27 h rfl (zq_o_181 _) (by decide +kernel), ?_⟩
  replace h := zq_nx3 (q := 49) h rfl
  refine ⟨zq_k_n 42 h rfl (zq_o_42 _), ?_⟩
  replace h := zq_nx1 (q := 50) h rfl
  refine ⟨zq_k_s2 17 (fun z => .sipush z) 216 h rfl (zq_o_17 _) (by decide +kernel), ?_⟩
  replace h := zq_nx3 (q := 53) h rfl
  refine ⟨by decide +kernel, ?_⟩
  have h : List.drop 55 prog_8_method_1_code.data.toList = 0xb5 :: _ := rfl
  refine ⟨zq_k_u2 181 (fun z => .putfield z) 31 h rfl (zq_o_181 _) (by decide +kernel), ?_⟩
  replace h := zq_nx3 (q := 58) h rfl
  exact zq_k_n 177 h rfl (zq_o_177 _)
def f_Tables_new_0  (a0 : Nat) (h : mH) : Option mH :=
  grd (¬ a0 = h.1) <|
  bd1 (mkn h 15 (.inl (0, (15, .inl (fun _ => 0))))) fun h2 =>
  grd (h.1 < h2.1) <|
  bd1 (pV h2 a0 7 1 (.ref h.1)) fun h6 =>
  grd (¬ a0 = h6.1) <|
  bd1 (mkn h6 15 (.inl (0, (15, .inl (fun _ => 0))))) fun h10 =>
  grd (h6.1 < h10.1) <|
  bd1 (pV h10 a0 7 2 (.ref h6.1)) fun h14 =>
  grd (¬ a0 = h14.1) <|
  bd1 (mkn h14 5 (.inl (0, (5, .inl (fun _ => 0))))) fun h18 =>
  grd (h14.1 < h18.1) <|
  bd1 (pV h18 a0 7 3 (.ref h14.1)) fun h22 =>
  grd (¬ a0 = h22.1) <|
  bd1 (mkn h22 3 (.inl (0, (3, .inl (fun _ => 0))))) fun h26 =>
  grd (h22.1 < h26.1) <|
  bd1 (pV h26 a0 7 4 (.ref h22.1)) fun h30 =>
  grd (¬ a0 = h30.1) <|
  bd1 (mkn h30 3 (.inl (0, (3, .inl (fun _ => 0))))) fun h34 =>
  grd (h30.1 < h34.1) <|
  bd1 (pV h34 a0 7 5 (.ref h30.1)) fun h38 =>
  grd (¬ a0 = h38.1) <|
  bd1 (mkn h38 18 (.inl (3, (18, .inr (.inl (fun _ => 0)))))) fun h42 =>
  grd (h38.1 < h42.1) <|
  bd1 (pV h42 a0 7 6 (.ref h38.1)) fun h46 =>
  grd (¬ a0 = h46.1) <|
  bd1 (mkn h46 216 (.inl (3, (216, .inr (.inl (fun _ => 0)))))) fun h50 =>
  grd (h46.1 < h50.1) <|
  bd1 (pV h50 a0 7 7 (.ref h46.1)) fun h54 =>
  some h54
set_option maxRecDepth 20000 in
theorem t_Tables_new_0 {sc : Nat × (Nat → Int32)}  (a0 : Nat) (h : mH) (h' : mH) (hf : f_Tables_new_0  a0 h = some h') : G sc y_Tables_new prog_8_method_1_code 1 none 1 20 0 [(0, .ref a0)] [] h none h' := by
  unfold f_Tables_new_0 at hf
  refine g_aload_n (pc := 0) 0 dd_Tables_new_0.1 rfl rfl ?_
  refine g_objInit (pc := 1) dd_Tables_new_0.2.1 wd_235 wd_24 wd_25 (by decide) (Nat.le_of_ble_eq_true rfl) ?_
  refine g_aload_n (pc := 4) 0 dd_Tables_new_0.2.2.1 rfl rfl ?_
  refine g_bipush (pc := 5) (15 : Int32) dd_Tables_new_0.2.2.2.1 (by decide) ?_
  obtain ⟨g1, hf⟩ := grd_e hf
  obtain ⟨h2, e3, hf⟩ := bd1_e hf
  obtain ⟨g4, e5⟩ := mkn_e e3
  refine g_newa (pc := 7) rfl 0 15 .int (15, .inl (fun _ => 0)) wd_92 rfl (fun _ => rfl) (fun _ _ _ a b => Option.some.inj (a.symm.trans b)) (fun _ => rfl) (fun _ => rfl) (fun _ z => absurd z id) (by decide) (by decide) (by decide) dd_Tables_new_0.2.2.2.2.1 g4 (okl_cons (okv_r (by omega)) (okl_nil)) (oks_cons (okv_r (by omega)) (oks_nil)) ?_
  rw [← e5]
  have h2_n : h2.1 = h.1 + 1 := by rw [e5]; rfl
  obtain ⟨g8, hf⟩ := grd_e hf
  obtain ⟨h6, e7, hf⟩ := bd1_e hf
  refine g_putF (pc := 9) (ci := 7) (kk := 1) ty_Tables tyok_Tables nm_Tables dd_Tables_new_0.2.2.2.2.2.1 rfl in_Tables (by decide) wd_237 rfl rfl rfl (fun _ => rfl) (fun _ => rfl) (fun _ z => by cases z; omega) e7 ?_
  refine g_aload_n (pc := 12) 0 dd_Tables_new_0.2.2.2.2.2.2.1 rfl rfl ?_
  refine g_bipush (pc := 13) (15 : Int32) dd_Tables_new_0.2.2.2.2.2.2.2.1 (by decide) ?_
  obtain ⟨g9, hf⟩ := grd_e hf
  obtain ⟨h10, e11, hf⟩ := bd1_e hf
  obtain ⟨g12, e13⟩ := mkn_e e11
  refine g_newa (pc := 15) rfl 0 15 .int (15, .inl (fun _ => 0)) wd_92 rfl (fun _ => rfl) (fun _ _ _ a b => Option.some.inj (a.symm.trans b)) (fun _ => rfl) (fun _ => rfl) (fun _ z => absurd z id) (by decide) (by decide) (by decide) dd_Tables_new_0.2.2.2.2.2.2.2.2.1 g12 (okl_cons (okv_r (by omega)) (okl_nil)) (oks_cons (okv_r (by omega)) (oks_nil)) ?_
  rw [← e13]
  have h10_n : h10.1 = h6.1 + 1 := by rw [e13]; rfl
  obtain ⟨g16, hf⟩ := grd_e hf
  obtain ⟨h14, e15, hf⟩ := bd1_e hf
  refine g_putF (pc := 17) (ci := 7) (kk := 2) ty_Tables tyok_Tables nm_Tables dd_Tables_new_0.2.2.2.2.2.2.2.2.2.1 rfl in_Tables (by decide) wd_238 rfl rfl rfl (fun _ => rfl) (fun _ => rfl) (fun _ z => by cases z; omega) e15 ?_
  refine g_aload_n (pc := 20) 0 dd_Tables_new_0.2.2.2.2.2.2.2.2.2.2.1 rfl rfl ?_
  refine g_iconst (pc := 21) (5 : Int32) dd_Tables_new_0.2.2.2.2.2.2.2.2.2.2.2.1 (by decide) ?_
  obtain ⟨g17, hf⟩ := grd_e hf
  obtain ⟨h18, e19, hf⟩ := bd1_e hf
  obtain ⟨g20, e21⟩ := mkn_e e19
  refine g_newa (pc := 22) rfl 0 5 .int (5, .inl (fun _ => 0)) wd_92 rfl (fun _ => rfl) (fun _ _ _ a b => Option.some.inj (a.symm.trans b)) (fun _ => rfl) (fun _ => rfl) (fun _ z => absurd z id) (by decide) (by decide) (by decide) dd_Tables_new_0.2.2.2.2.2.2.2.2.2.2.2.2.1 g20 (okl_cons (okv_r (by omega)) (okl_nil)) (oks_cons (okv_r (by omega)) (oks_nil)) ?_
  rw [← e21]
  have h18_n : h18.1 = h14.1 + 1 := by rw [e21]; rfl
  obtain ⟨g24, hf⟩ := grd_e hf
  obtain ⟨h22, e23, hf⟩ := bd1_e hf
  refine g_putF (pc := 24) (ci := 7) (kk := 3) ty_Tables tyok_Tables nm_Tables dd_Tables_new_0.2.2.2.2.2.2.2.2.2.2.2.2.2.1 rfl in_Tables (by decide) wd_239 rfl rfl rfl (fun _ => rfl) (fun _ => rfl) (fun _ z => by cases z; omega) e23 ?_
  refine g_aload_n (pc := 27) 0 dd_Tables_new_0.2.2.2.2.2.2.2.2.2.2.2.2.2.2.1 rfl rfl ?_
  refine g_iconst (pc := 28) (3 : Int32) dd_Tables_new_0.2.2.2.2.2.2.2.2.2.2.2.2.2.2.2.1 (by decide) ?_
  obtain ⟨g25, hf⟩ := grd_e hf
  obtain ⟨h26, e27, hf⟩ := bd1_e hf
  obtain ⟨g28, e29⟩ := mkn_e e27
  refine g_newa (pc := 29) rfl 0 3 .int (3, .inl (fun _ => 0)) wd_92 rfl (fun _ => rfl) (fun _ _ _ a b => Option.some.inj (a.symm.trans b)) (fun _ => rfl) (fun _ => rfl) (fun _ z => absurd z id) (by decide) (by decide) (by decide) dd_Tables_new_0.2.2.2.2.2.2.2.2.2.2.2.2.2.2.2.2.1 g28 (okl_cons (okv_r (by omega)) (okl_nil)) (oks_cons (okv_r (by omega)) (oks_nil)) ?_
  rw [← e29]
  have h26_n : h26.1 = h22.1 + 1 := by rw [e29]; rfl
  obtain ⟨g32, hf⟩ := grd_e hf
  obtain ⟨h30, e31, hf⟩ := bd1_e hf
  refine g_putF (pc := 31) (ci := 7) (kk := 4) ty_Tables tyok_Tables nm_Tables dd_Tables_new_0.2.2.2.2.2.2.2.2.2.2.2.2.2.2.2.2.2.1 rfl in_Tables (by decide) wd_240 rfl rfl rfl (fun _ => rfl) (fun _ => rfl) (fun _ z => by cases z; omega) e31 ?_
  refine g_aload_n (pc := 34) 0 dd_Tables_new_0.2.2.2.2.2.2.2.2.2.2.2.2.2.2.2.2.2.2.1 rfl rfl ?_
  refine g_iconst (pc := 35) (3 : Int32) dd_Tables_new_0.2.2.2.2.2.2.2.2.2.2.2.2.2.2.2.2.2.2.2.1 (by decide) ?_
  obtain ⟨g33, hf⟩ := grd_e hf
  obtain ⟨h34, e35, hf⟩ := bd1_e hf
  obtain ⟨g36, e37⟩ := mkn_e e35
  refine g_newa (pc := 36) rfl 0 3 .int (3, .inl (fun _ => 0)) wd_92 rfl (fun _ => rfl) (fun _ _ _ a b => Option.some.inj (a.symm.trans b)) (fun _ => rfl) (fun _ => rfl) (fun _ z => absurd z id) (by decide) (by decide) (by decide) dd_Tables_new_0.2.2.2.2.2.2.2.2.2.2.2.2.2.2.2.2.2.2.2.2.1 g36 (okl_cons (okv_r (by omega)) (okl_nil)) (oks_cons (okv_r (by omega)) (oks_nil)) ?_
  rw [← e37]
  have h34_n : h34.1 = h30.1 + 1 := by rw [e37]; rfl
  obtain ⟨g40, hf⟩ := grd_e hf
  obtain ⟨h38, e39, hf⟩ := bd1_e hf
  refine g_putF (pc := 38) (ci := 7) (kk := 5) ty_Tables tyok_Tables nm_Tables dd_Tables_new_0.2.2.2.2.2.2.2.2.2.2.2.2.2.2.2.2.2.2.2.2.2.1 rfl in_Tables (by decide) wd_241 rfl rfl rfl (fun _ => rfl) (fun _ => rfl) (fun _ z => by cases z; omega) e39 ?_
  refine g_aload_n (pc := 41) 0 dd_Tables_new_0.2.2.2.2.2.2.2.2.2.2.2.2.2.2.2.2.2.2.2.2.2.2.1 rfl rfl ?_
  refine g_bipush (pc := 42) (18 : Int32) dd_Tables_new_0.2.2.2.2.2.2.2.2.2.2.2.2.2.2.2.2.2.2.2.2.2.2.2 (by decide) ?_
  obtain ⟨g41, hf⟩ := grd_e hf
  obtain ⟨h42, e43, hf⟩ := bd1_e hf
  obtain ⟨g44, e45⟩ := mkn_e e43
  refine g_newa (pc := 44) rfl 3 18 .long (18, .inr (.inl (fun _ => 0))) wd_261 rfl (fun _ => rfl) (fun _ _ _ a b => Option.some.inj (a.symm.trans b)) (fun _ => rfl) (fun _ => rfl) (fun _ z => absurd z id) (by decide) (by decide) (by decide) dd_Tables_new_44.1 g44 (okl_cons (okv_r (by omega)) (okl_nil)) (oks_cons (okv_r (by omega)) (oks_nil)) ?_
  rw [← e45]
  have h42_n : h42.1 = h38.1 + 1 := by rw [e45]; rfl
  obtain ⟨g48, hf⟩ := grd_e hf
  obtain ⟨h46, e47, hf⟩ := bd1_e hf
  refine g_putF (pc := 46) (ci := 7) (kk := 6) ty_Tables tyok_Tables nm_Tables dd_Tables_new_44.2.1 rfl in_Tables (by decide) wd_242 rfl rfl rfl (fun _ => rfl) (fun _ => rfl) (fun _ z => by cases z; omega) e47 ?_
  refine g_aload_n (pc := 49) 0 dd_Tables_new_44.2.2.1 rfl rfl ?_
  refine g_sipush (pc := 50) (216 : Int32) dd_Tables_new_44.2.2.2.1 (by decide) ?_
  obtain ⟨g49, hf⟩ := grd_e hf
  obtain ⟨h50, e51, hf⟩ := bd1_e hf
  obtain ⟨g52, e53⟩ := mkn_e e51
  refine g_newa (pc := 53) rfl 3 216 .long (216, .inr (.inl (fun _ => 0))) wd_261 rfl (fun _ => rfl) (fun _ _ _ a b => Option.some.inj (a.symm.trans b)) (fun _ => rfl) (fun _ => rfl) (fun _ z => absurd z id) (by decide) (by decide) (by decide) dd_Tables_new_44.2.2.2.2.1 g52 (okl_cons (okv_r (by omega)) (okl_nil)) (oks_cons (okv_r (by omega)) (oks_nil)) ?_
  rw [← e53]
  have h50_n : h50.1 = h46.1 + 1 := by rw [e53]; rfl
  obtain ⟨g56, hf⟩ := grd_e hf
  obtain ⟨h54, e55, hf⟩ := bd1_e hf
  refine g_putF (pc := 55) (ci := 7) (kk := 7) ty_Tables tyok_Tables nm_Tables dd_Tables_new_44.2.2.2.2.2.1 rfl in_Tables (by decide) wd_243 rfl rfl rfl (fun _ => rfl) (fun _ => rfl) (fun _ z => by cases z; omega) e55 ?_
  obtain rfl := ret1 hf
  exact g_vret (pc := 58) rfl dd_Tables_new_44.2.2.2.2.2.2
def f_Tables_new (a0 : Nat) (h : mH) : Option mH := f_Tables_new_0 a0 h
theorem c_Tables_new {sc : Nat × (Nat → Int32)} {a0 : Nat} {h : mH} {h' : mH} (hf : f_Tables_new a0 h = some h') : MM sc y_Tables_new prog_8_method_1_code 1 none 1 20 [.ref a0] h none h' :=
  mm_of_G si_pn_Tables (Nat.le_of_ble_eq_true rfl) (t_Tables_new_0 _ _ _ hf)
/-! Odds init ()V -/
set_option maxRecDepth 100000 in
theorem dd_Odds_new_0 : (decode prog_2_method_1_code 0 = .ok (.aload_n 0, 1)) ∧ (decode prog_2_method_1_code 1 = .ok (.invokespecial 3, 3)) ∧ (decode prog_2_method_1_code 4 = .ok (.aload_n 0, 1)) ∧ (decode prog_2_method_1_code 5 = .ok (.bipush 10, 2)) ∧ (decode prog_2_method_1_code 7 = .ok (.newarray .long, 2)) ∧ (decode prog_2_method_1_code 9 = .ok (.putfield 11, 3)) ∧ (decode prog_2_method_1_code 12 = .ok (.return_, 1)) := by
  have h : List.drop 0 prog_2_method_1_code.data.toList = 0x2a :: _ := rfl
  refine ⟨zq_k_n 42 h rfl (zq_o_42 _), ?_⟩
  replace h := zq_nx1 (q := 1) h rfl
  refine ⟨zq_k_u2 183 (fun z => .invokespecial z) 3 h rfl (zq_o_183 _) (by decide +kernel), ?_⟩
  replace h := zq_nx3 (q := 4) h rfl
  refine ⟨zq_k_n 42 h rfl (zq_o_42 _), ?_⟩
  replace h := zq_nx1 (q := 5) h rfl
  refine ⟨zq_k_s1 16 (fun z => .bipush z) 10 h rfl (zq_o_16 _) (by decide +kernel), ?_⟩
  replace h := zq_nx2 (q := 7) h rfl
  refine ⟨by decide +kernel, ?_⟩
  have h : List.drop 9 prog_2_method_1_code.data.toList = 0xb5 :: _ := rfl
  refine ⟨zq_k_u2 181 (fun z => .putfield z) 11 h rfl (zq_o_181 _) (by decide +kernel), ?_⟩
  replace h := zq_nx3 (q := 12) h rfl
  exact zq_k_n 177 h rfl (zq_o_177 _)
def f_Odds_new_0  (a0 : Nat) (h : mH) : Option mH :=
  grd (¬ a0 = h.1) <|
  bd1 (mkn h 10 (.inl (3, (10, .inr (.inl (fun _ => 0)))))) fun h2 =>
  grd (h.1 < h2.1) <|
  bd1 (pV h2 a0 1 2 (.ref h.1)) fun h6 =>
  some h6
set_option maxRecDepth 20000 in
theorem t_Odds_new_0 {sc : Nat × (Nat → Int32)}  (a0 : Nat) (h : mH) (h' : mH) (hf : f_Odds_new_0  a0 h = some h') : G sc y_Odds_new prog_2_method_1_code 1 none 1 20 0 [(0, .ref a0)] [] h none h' := by
  unfold f_Odds_new_0 at hf
  refine g_aload_n (pc := 0) 0 dd_Odds_new_0.1 rfl rfl ?_
  refine g_objInit (pc := 1) dd_Odds_new_0.2.1 wd_267 wd_24 wd_25 (by decide) (Nat.le_of_ble_eq_true rfl) ?_
  refine g_aload_n (pc := 4) 0 dd_Odds_new_0.2.2.1 rfl rfl ?_
  refine g_bipush (pc := 5) (10 : Int32) dd_Odds_new_0.2.2.2.1 (by decide) ?_
  obtain ⟨g1, hf⟩ := grd_e hf
  obtain ⟨h2, e3, hf⟩ := bd1_e hf
  obtain ⟨g4, e5⟩ := mkn_e e3
  refine g_newa (pc := 7) rfl 3 10 .long (10, .inr (.inl (fun _ => 0))) wd_261 rfl (fun _ => rfl) (fun _ _ _ a b => Option.some.inj (a.symm.trans b)) (fun _ => rfl) (fun _ => rfl) (fun _ z => absurd z id) (by decide) (by decide) (by decide) dd_Odds_new_0.2.2.2.2.1 g4 (okl_cons (okv_r (by omega)) (okl_nil)) (oks_cons (okv_r (by omega)) (oks_nil)) ?_
  rw [← e5]
  have h2_n : h2.1 = h.1 + 1 := by rw [e5]; rfl
  obtain ⟨g8, hf⟩ := grd_e hf
  obtain ⟨h6, e7, hf⟩ := bd1_e hf
  refine g_putF (pc := 9) (ci := 1) (kk := 2) ty_Odds tyok_Odds nm_Odds dd_Odds_new_0.2.2.2.2.2.1 rfl in_Odds (by decide) wd_272 rfl rfl rfl (fun _ => rfl) (fun _ => rfl) (fun _ z => by cases z; omega) e7 ?_
  obtain rfl := ret1 hf
  exact g_vret (pc := 12) rfl dd_Odds_new_0.2.2.2.2.2.2
def f_Odds_new (a0 : Nat) (h : mH) : Option mH := f_Odds_new_0 a0 h
theorem c_Odds_new {sc : Nat × (Nat → Int32)} {a0 : Nat} {h : mH} {h' : mH} (hf : f_Odds_new a0 h = some h') : MM sc y_Odds_new prog_2_method_1_code 1 none 1 20 [.ref a0] h none h' :=
  mm_of_G si_pn_Odds (Nat.le_of_ble_eq_true rfl) (t_Odds_new_0 _ _ _ hf)
/-! Sheet init ()V -/
set_option maxRecDepth 100000 in
theorem dd_Sheet_new_0 : (decode prog_6_method_1_code 0 = .ok (.aload_n 0, 1)) ∧ (decode prog_6_method_1_code 1 = .ok (.invokespecial 3, 3)) ∧ (decode prog_6_method_1_code 4 = .ok (.aload_n 0, 1)) ∧ (decode prog_6_method_1_code 5 = .ok (.bipush (-4), 2)) ∧ (decode prog_6_method_1_code 7 = .ok (.putfield 9, 3)) ∧ (decode prog_6_method_1_code 10 = .ok (.aload_n 0, 1)) ∧ (decode prog_6_method_1_code 11 = .ok (.bipush 40, 2)) ∧ (decode prog_6_method_1_code 13 = .ok (.newarray .int, 2)) ∧ (decode prog_6_method_1_code 15 = .ok (.putfield 15, 3)) ∧ (decode prog_6_method_1_code 18 = .ok (.return_, 1)) := by
  have h : List.drop 0 prog_6_method_1_code.data.toList = 0x2a :: _ := rfl
  refine ⟨zq_k_n 42 h rfl (zq_o_42 _), ?_⟩
  replace h := zq_nx1 (q := 1) h rfl
  refine ⟨zq_k_u2 183 (fun z => .invokespecial z) 3 h rfl (zq_o_183 _) (by decide +kernel), ?_⟩
  replace h := zq_nx3 (q := 4) h rfl
  refine ⟨zq_k_n 42 h rfl (zq_o_42 _), ?_⟩
  replace h := zq_nx1 (q := 5) h rfl
  refine ⟨zq_k_s1 16 (fun z => .bipush z) (-4) h rfl (zq_o_16 _) (by decide +kernel), ?_⟩
  replace h := zq_nx2 (q := 7) h rfl
  refine ⟨zq_k_u2 181 (fun z => .putfield z) 9 h rfl (zq_o_181 _) (by decide +kernel), ?_⟩
  replace h := zq_nx3 (q := 10) h rfl
  refine ⟨zq_k_n 42 h rfl (zq_o_42 _), ?_⟩
  replace h := zq_nx1 (q := 11) h rfl
  refine ⟨zq_k_s1 16 (fun z => .bipush z) 40 h rfl (zq_o_16 _) (by decide +kernel), ?_⟩
  replace h := zq_nx2 (q := 13) h rfl
  refine ⟨by decide +kernel, ?_⟩
  have h : List.drop 15 prog_6_method_1_code.data.toList = 0xb5 :: _ := rfl
  refine ⟨zq_k_u2 181 (fun z => .putfield z) 15 h rfl (zq_o_181 _) (by decide +kernel), ?_⟩
  replace h := zq_nx3 (q := 18) h rfl
  exact zq_k_n 177 h rfl (zq_o_177 _)
def f_Sheet_new_0  (a0 : Nat) (h : mH) : Option mH :=
  bd1 (pV h a0 5 0 (.int ((-4) : Int32))) fun h1 =>
  grd (¬ a0 = h1.1) <|
  bd1 (mkn h1 40 (.inl (0, (40, .inl (fun _ => 0))))) fun h4 =>
  grd (h1.1 < h4.1) <|
  bd1 (pV h4 a0 5 2 (.ref h1.1)) fun h8 =>
  some h8
set_option maxRecDepth 20000 in
theorem t_Sheet_new_0 {sc : Nat × (Nat → Int32)}  (a0 : Nat) (h : mH) (h' : mH) (hf : f_Sheet_new_0  a0 h = some h') : G sc y_Sheet_new prog_6_method_1_code 1 none 1 20 0 [(0, .ref a0)] [] h none h' := by
  unfold f_Sheet_new_0 at hf
  refine g_aload_n (pc := 0) 0 dd_Sheet_new_0.1 rfl rfl ?_
  refine g_objInit (pc := 1) dd_Sheet_new_0.2.1 wd_284 wd_24 wd_25 (by decide) (Nat.le_of_ble_eq_true rfl) ?_
  refine g_aload_n (pc := 4) 0 dd_Sheet_new_0.2.2.1 rfl rfl ?_
  refine g_bipush (pc := 5) ((-4) : Int32) dd_Sheet_new_0.2.2.2.1 (by decide) ?_
  obtain ⟨h1, e2, hf⟩ := bd1_e hf
  refine g_put (pc := 7) (ci := 5) (kk := 0) ty_Sheet tyok_Sheet nm_Sheet dd_Sheet_new_0.2.2.2.2.1 rfl in_Sheet (by decide) wd_285 rfl (fun _ => rfl) (fun _ => rfl) (fun _ z => by cases z) e2 ?_
  refine g_aload_n (pc := 10) 0 dd_Sheet_new_0.2.2.2.2.2.1 rfl rfl ?_
  refine g_bipush (pc := 11) (40 : Int32) dd_Sheet_new_0.2.2.2.2.2.2.1 (by decide) ?_
  obtain ⟨g3, hf⟩ := grd_e hf
  obtain ⟨h4, e5, hf⟩ := bd1_e hf
  obtain ⟨g6, e7⟩ := mkn_e e5
  refine g_newa (pc := 13) rfl 0 40 .int (40, .inl (fun _ => 0)) wd_92 rfl (fun _ => rfl) (fun _ _ _ a b => Option.some.inj (a.symm.trans b)) (fun _ => rfl) (fun _ => rfl) (fun _ z => absurd z id) (by decide) (by decide) (by decide) dd_Sheet_new_0.2.2.2.2.2.2.2.1 g6 (okl_cons (okv_r (by omega)) (okl_nil)) (oks_cons (okv_r (by omega)) (oks_nil)) ?_
  rw [← e7]
  have h4_n : h4.1 = h1.1 + 1 := by rw [e7]; rfl
  obtain ⟨g10, hf⟩ := grd_e hf
  obtain ⟨h8, e9, hf⟩ := bd1_e hf
  refine g_putF (pc := 15) (ci := 5) (kk := 2) ty_Sheet tyok_Sheet nm_Sheet dd_Sheet_new_0.2.2.2.2.2.2.2.2.1 rfl in_Sheet (by decide) wd_288 rfl rfl rfl (fun _ => rfl) (fun _ => rfl) (fun _ z => by cases z; omega) e9 ?_
  obtain rfl := ret1 hf
  exact g_vret (pc := 18) rfl dd_Sheet_new_0.2.2.2.2.2.2.2.2.2
def f_Sheet_new (a0 : Nat) (h : mH) : Option mH := f_Sheet_new_0 a0 h
theorem c_Sheet_new {sc : Nat × (Nat → Int32)} {a0 : Nat} {h : mH} {h' : mH} (hf : f_Sheet_new a0 h = some h') : MM sc y_Sheet_new prog_6_method_1_code 1 none 1 20 [.ref a0] h none h' :=
  mm_of_G si_pn_Sheet (Nat.le_of_ble_eq_true rfl) (t_Sheet_new_0 _ _ _ hf)
/-! Q init ()V -/
set_option maxRecDepth 100000 in
theorem dd_Q_new_0 : (decode prog_1_method_1_code 0 = .ok (.aload_n 0, 1)) ∧ (decode prog_1_method_1_code 1 = .ok (.invokespecial 1, 3)) ∧ (decode prog_1_method_1_code 4 = .ok (.aload_n 0, 1)) ∧ (decode prog_1_method_1_code 5 = .ok (.new 7, 3)) ∧ (decode prog_1_method_1_code 8 = .ok (.dup, 1)) ∧ (decode prog_1_method_1_code 9 = .ok (.invokespecial 9, 3)) ∧ (decode prog_1_method_1_code 12 = .ok (.putfield 10, 3)) ∧ (decode prog_1_method_1_code 15 = .ok (.aload_n 0, 1)) ∧ (decode prog_1_method_1_code 16 = .ok (.new 16, 3)) ∧ (decode prog_1_method_1_code 19 = .ok (.dup, 1)) ∧ (decode prog_1_method_1_code 20 = .ok (.invokespecial 18, 3)) ∧ (decode prog_1_method_1_code 23 = .ok (.putfield 19, 3)) ∧ (decode prog_1_method_1_code 26 = .ok (.aload_n 0, 1)) ∧ (decode prog_1_method_1_code 27 = .ok (.new 16, 3)) ∧ (decode prog_1_method_1_code 30 = .ok (.dup, 1)) ∧ (decode prog_1_method_1_code 31 = .ok (.invokespecial 18, 3)) ∧ (decode prog_1_method_1_code 34 = .ok (.putfield 23, 3)) ∧ (decode prog_1_method_1_code 37 = .ok (.aload_n 0, 1)) ∧ (decode prog_1_method_1_code 38 = .ok (.iconst 2, 1)) ∧ (decode prog_1_method_1_code 39 = .ok (.anewarray 16, 3)) ∧ (decode prog_1_method_1_code 42 = .ok (.putfield 26, 3)) ∧ (decode prog_1_method_1_code 45 = .ok (.aload_n 0, 1)) ∧ (decode prog_1_method_1_code 46 = .ok (.iconst 2, 1)) ∧ (decode prog_1_method_1_code 47 = .ok (.newarray .boolean, 2)) := by
  have h : List.drop 0 prog_1_method_1_code.data.toList = 0x2a :: _ := rfl
  refine ⟨zq_k_n 42 h rfl (zq_o_42 _), ?_⟩
  replace h := zq_nx1 (q := 1) h rfl
  refine ⟨zq_k_u2 183 (fun z => .invokespecial z) 1 h rfl (zq_o_183 _) (by decide +kernel), ?_⟩
  replace h := zq_nx3 (q := 4) h rfl
  refine ⟨zq_k_n 42 h rfl (zq_o_42 _), ?_⟩
  replace h := zq_nx1 (q := 5) h rfl
  refine ⟨zq_k_u2 187 (fun z => .new z) 7 h rfl (zq_o_187 _) (by decide +kernel), ?_⟩
  replace h := zq_nx3 (q := 8) h rfl
  refine ⟨zq_k_n 89 h rfl (zq_o_89 _), ?_⟩
  replace h := zq_nx1 (q := 9) h rfl
  refine ⟨zq_k_u2 183 (fun z => .invokespecial z) 9 h rfl (zq_o_183 _) (by decide +kernel), ?_⟩
  replace h := zq_nx3 (q := 12) h rfl
  refine ⟨zq_k_u2 181 (fun z => .putfield z) 10 h rfl (zq_o_181 _) (by decide +kernel), ?_⟩
  replace h := zq_nx3 (q := 15) h rfl
  refine ⟨zq_k_n 42 h rfl (zq_o_42 _), ?_⟩
  replace h := zq_nx1 (q := 16) h rfl
  refine ⟨zq_k_u2 187 (fun z => .new z) 16 h rfl (zq_o_187 _) (by decide +kernel), ?_⟩
  replace h := zq_nx3 (q := 19) h rfl
  refine ⟨zq_k_n 89 h rfl (zq_o_89 _), ?_⟩
  replace h := zq_nx1 (q := 20) h rfl
  refine ⟨zq_k_u2 183 (fun z => .invokespecial z) 18 h rfl (zq_o_183 _) (by decide +kernel), ?_⟩
  replace h := zq_nx3 (q := 23) h rfl
  refine ⟨zq_k_u2 181 (fun z => .putfield z) 19 h rfl (zq_o_181 _) (by decide +kernel), ?_⟩
  replace h := zq_nx3 (q := 26) h rfl
  refine ⟨zq_k_n 42 h rfl (zq_o_42 _), ?_⟩
  replace h := zq_nx1 (q := 27) h rfl
  refine ⟨zq_k_u2 187 (fun z => .new z) 16 h rfl (zq_o_187 _) (by decide +kernel), ?_⟩
  replace h := zq_nx3 (q := 30) h rfl
  refine ⟨zq_k_n 89 h rfl (zq_o_89 _), ?_⟩
  replace h := zq_nx1 (q := 31) h rfl
  refine ⟨zq_k_u2 183 (fun z => .invokespecial z) 18 h rfl (zq_o_183 _) (by decide +kernel), ?_⟩
  replace h := zq_nx3 (q := 34) h rfl
  refine ⟨zq_k_u2 181 (fun z => .putfield z) 23 h rfl (zq_o_181 _) (by decide +kernel), ?_⟩
  replace h := zq_nx3 (q := 37) h rfl
  refine ⟨zq_k_n 42 h rfl (zq_o_42 _), ?_⟩
  replace h := zq_nx1 (q := 38) h rfl
  refine ⟨zq_k_n 5 h rfl (zq_o_5 _), ?_⟩
  replace h := zq_nx1 (q := 39) h rfl
  refine ⟨zq_k_u2 189 (fun z => .anewarray z) 16 h rfl (zq_o_189 _) (by decide +kernel), ?_⟩
  replace h := zq_nx3 (q := 42) h rfl
  refine ⟨zq_k_u2 181 (fun z => .putfield z) 26 h rfl (zq_o_181 _) (by decide +kernel), ?_⟩
  replace h := zq_nx3 (q := 45) h rfl
  refine ⟨zq_k_n 42 h rfl (zq_o_42 _), ?_⟩
  replace h := zq_nx1 (q := 46) h rfl
  refine ⟨zq_k_n 5 h rfl (zq_o_5 _), ?_⟩
  replace h := zq_nx1 (q := 47) h rfl
  exact by decide +kernel
set_option maxRecDepth 100000 in
theorem dd_Q_new_49 : (decode prog_1_method_1_code 49 = .ok (.putfield 30, 3)) ∧ (decode prog_1_method_1_code 52 = .ok (.aload_n 0, 1)) ∧ (decode prog_1_method_1_code 53 = .ok (.iconst 4, 1)) ∧ (decode prog_1_method_1_code 54 = .ok (.anewarray 34, 3)) ∧ (decode prog_1_method_1_code 57 = .ok (.putfield 36, 3)) ∧ (decode prog_1_method_1_code 60 = .ok (.aload_n 0, 1)) ∧ (decode prog_1_method_1_code 61 = .ok (.new 40, 3)) ∧ (decode prog_1_method_1_code 64 = .ok (.dup, 1)) ∧ (decode prog_1_method_1_code 65 = .ok (.invokespecial 42, 3)) ∧ (decode prog_1_method_1_code 68 = .ok (.putfield 43, 3)) ∧ (decode prog_1_method_1_code 71 = .ok (.aload_n 0, 1)) ∧ (decode prog_1_method_1_code 72 = .ok (.new 47, 3)) ∧ (decode prog_1_method_1_code 75 = .ok (.dup, 1)) ∧ (decode prog_1_method_1_code 76 = .ok (.invokespecial 49, 3)) ∧ (decode prog_1_method_1_code 79 = .ok (.putfield 50, 3)) ∧ (decode prog_1_method_1_code 82 = .ok (.aload_n 0, 1)) ∧ (decode prog_1_method_1_code 83 = .ok (.new 54, 3)) ∧ (decode prog_1_method_1_code 86 = .ok (.dup, 1)) ∧ (decode prog_1_method_1_code 87 = .ok (.invokespecial 56, 3)) ∧ (decode prog_1_method_1_code 90 = .ok (.putfield 57, 3)) ∧ (decode prog_1_method_1_code 93 = .ok (.iconst 0, 1)) ∧ (decode prog_1_method_1_code 94 = .ok (.istore_n 1, 1)) ∧ (decode prog_1_method_1_code 95 = .ok (.iload_n 1, 1)) ∧ (decode prog_1_method_1_code 96 = .ok (.iconst 2, 1)) := by
  have h : List.drop 49 prog_1_method_1_code.data.toList = 0xb5 :: _ := rfl
  refine ⟨zq_k_u2 181 (fun z => .putfield z) 30 h rfl (zq_o_181 _) (by decide +kernel), ?_⟩
  replace h := zq_nx3 (q := 52) h rfl
  refine ⟨zq_k_n 42 h rfl (zq_o_42 _), ?_⟩
  replace h := zq_nx1 (q := 53) h rfl
  refine ⟨zq_k_n 7 h rfl (zq_o_7 _), ?_⟩
  replace h := zq_nx1 (q := 54) h rfl
  refine ⟨zq_k_u2 189 (fun z => .anewarray z) 34 h rfl (zq_o_189 _) (by decide +kernel), ?_⟩
  replace h := zq_nx3 (q := 57) h rfl
  refine ⟨zq_k_u2 181 (fun z => .putfield z) 36 h rfl (zq_o_181 _) (by decide +kernel), ?_⟩
  replace h := zq_nx3 (q := 60) h rfl
  refine ⟨zq_k_n 42 h rfl (zq_o_42 _), ?_⟩
  replace h := zq_nx1 (q := 61) h rfl
  refine ⟨zq_k_u2 187 (fun z => .new z) 40 h rfl (zq_o_187 _) (by decide +kernel), ?_⟩
  replace h := zq_nx3 (q := 64) h rfl
  refine ⟨zq_k_n 89 h rfl (zq_o_89 _), ?_⟩
  replace h := zq_nx1 (q := 65) h rfl
  refine ⟨zq_k_u2 183 (fun z => .invokespecial z) 42 h rfl (zq_o_183 _) (by decide +kernel), ?_⟩
  replace h := zq_nx3 (q := 68) h rfl
  refine ⟨zq_k_u2 181 (fun z => .putfield z) 43 h rfl (zq_o_181 _) (by decide +kernel), ?_⟩
  replace h := zq_nx3 (q := 71) h rfl
  refine ⟨zq_k_n 42 h rfl (zq_o_42 _), ?_⟩
  replace h := zq_nx1 (q := 72) h rfl
  refine ⟨zq_k_u2 187 (fun z => .new z) 47 h rfl (zq_o_187 _) (by decide +kernel), ?_⟩
  replace h := zq_nx3 (q := 75) h rfl
  refine ⟨zq_k_n 89 h rfl (zq_o_89 _), ?_⟩
  replace h := zq_nx1 (q := 76) h rfl
  refine ⟨zq_k_u2 183 (fun z => .invokespecial z) 49 h rfl (zq_o_183 _) (by decide +kernel), ?_⟩
  replace h := zq_nx3 (q := 79) h rfl
  refine ⟨zq_k_u2 181 (fun z => .putfield z) 50 h rfl (zq_o_181 _) (by decide +kernel), ?_⟩
  replace h := zq_nx3 (q := 82) h rfl
  refine ⟨zq_k_n 42 h rfl (zq_o_42 _), ?_⟩
  replace h := zq_nx1 (q := 83) h rfl
  refine ⟨zq_k_u2 187 (fun z => .new z) 54 h rfl (zq_o_187 _) (by decide +kernel), ?_⟩
  replace h := zq_nx3 (q := 86) h rfl
  refine ⟨zq_k_n 89 h rfl (zq_o_89 _), ?_⟩
  replace h := zq_nx1 (q := 87) h rfl
  refine ⟨zq_k_u2 183 (fun z => .invokespecial z) 56 h rfl (zq_o_183 _) (by decide +kernel), ?_⟩
  replace h := zq_nx3 (q := 90) h rfl
  refine ⟨zq_k_u2 181 (fun z => .putfield z) 57 h rfl (zq_o_181 _) (by decide +kernel), ?_⟩
  replace h := zq_nx3 (q := 93) h rfl
  refine ⟨zq_k_n 3 h rfl (zq_o_3 _), ?_⟩
  replace h := zq_nx1 (q := 94) h rfl
  refine ⟨zq_k_n 60 h rfl (zq_o_60 _), ?_⟩
  replace h := zq_nx1 (q := 95) h rfl
  refine ⟨zq_k_n 27 h rfl (zq_o_27 _), ?_⟩
  replace h := zq_nx1 (q := 96) h rfl
  exact zq_k_n 5 h rfl (zq_o_5 _)
set_option maxRecDepth 100000 in
theorem dd_Q_new_97 : (decode prog_1_method_1_code 97 = .ok (.if_icmp .ge 22, 3)) ∧ (decode prog_1_method_1_code 100 = .ok (.aload_n 0, 1)) ∧ (decode prog_1_method_1_code 101 = .ok (.getfield 26, 3)) ∧ (decode prog_1_method_1_code 104 = .ok (.iload_n 1, 1)) ∧ (decode prog_1_method_1_code 105 = .ok (.new 16, 3)) ∧ (decode prog_1_method_1_code 108 = .ok (.dup, 1)) ∧ (decode prog_1_method_1_code 109 = .ok (.invokespecial 18, 3)) ∧ (decode prog_1_method_1_code 112 = .ok (.aastore, 1)) ∧ (decode prog_1_method_1_code 113 = .ok (.iinc 1 1, 3)) ∧ (decode prog_1_method_1_code 116 = .ok (.goto (-21), 3)) ∧ (decode prog_1_method_1_code 119 = .ok (.iconst 0, 1)) ∧ (decode prog_1_method_1_code 120 = .ok (.istore_n 1, 1)) ∧ (decode prog_1_method_1_code 121 = .ok (.iload_n 1, 1)) ∧ (decode prog_1_method_1_code 122 = .ok (.iconst 4, 1)) ∧ (decode prog_1_method_1_code 123 = .ok (.if_icmp .ge 22, 3)) ∧ (decode prog_1_method_1_code 126 = .ok (.aload_n 0, 1)) ∧ (decode prog_1_method_1_code 127 = .ok (.getfield 36, 3)) ∧ (decode prog_1_method_1_code 130 = .ok (.iload_n 1, 1)) ∧ (decode prog_1_method_1_code 131 = .ok (.new 34, 3)) ∧ (decode prog_1_method_1_code 134 = .ok (.dup, 1)) ∧ (decode prog_1_method_1_code 135 = .ok (.invokespecial 61, 3)) ∧ (decode prog_1_method_1_code 138 = .ok (.aastore, 1)) ∧ (decode prog_1_method_1_code 139 = .ok (.iinc 1 1, 3)) ∧ (decode prog_1_method_1_code 142 = .ok (.goto (-21), 3)) := by
  have h : List.drop 97 prog_1_method_1_code.data.toList = 0xa2 :: _ := rfl
  refine ⟨zq_k_s2 162 (fun z => .if_icmp .ge z) 22 h rfl (zq_o_162 _) (by decide +kernel), ?_⟩
  replace h := zq_nx3 (q := 100) h rfl
  refine ⟨zq_k_n 42 h rfl (zq_o_42 _), ?_⟩
  replace h := zq_nx1 (q := 101) h rfl
  refine ⟨zq_k_u2 180 (fun z => .getfield z) 26 h rfl (zq_o_180 _) (by decide +kernel), ?_⟩
  replace h := zq_nx3 (q := 104) h rfl
  refine ⟨zq_k_n 27 h rfl (zq_o_27 _), ?_⟩
  replace h := zq_nx1 (q := 105) h rfl
  refine ⟨zq_k_u2 187 (fun z => .new z) 16 h rfl (zq_o_187 _) (by decide +kernel), ?_⟩
  replace h := zq_nx3 (q := 108) h rfl
  refine ⟨zq_k_n 89 h rfl (zq_o_89 _), ?_⟩
  replace h := zq_nx1 (q := 109) h rfl
  refine ⟨zq_k_u2 183 (fun z => .invokespecial z) 18 h rfl (zq_o_183 _) (by decide +kernel), ?_⟩
  replace h := zq_nx3 (q := 112) h rfl
  refine ⟨zq_k_n 83 h rfl (zq_o_83 _), ?_⟩
  replace h := zq_nx1 (q := 113) h rfl
  refine ⟨zq_k_iinc 1 1 h rfl (zq_o_132 _) (by decide +kernel) (by decide +kernel), ?_⟩
  replace h := zq_nx3 (q := 116) h rfl
  refine ⟨zq_k_s2 167 (fun z => .goto z) (-21) h rfl (zq_o_167 _) (by decide +kernel), ?_⟩
  replace h := zq_nx3 (q := 119) h rfl
  refine ⟨zq_k_n 3 h rfl (zq_o_3 _), ?_⟩
  replace h := zq_nx1 (q := 120) h rfl
  refine ⟨zq_k_n 60 h rfl (zq_o_60 _), ?_⟩
  replace h := zq_nx1 (q := 121) h rfl
  refine ⟨zq_k_n 27 h rfl (zq_o_27 _), ?_⟩
  replace h := zq_nx1 (q := 122) h rfl
  refine ⟨zq_k_n 7 h rfl (zq_o_7 _), ?_⟩
  replace h := zq_nx1 (q := 123) h rfl
  refine ⟨zq_k_s2 162 (fun z => .if_icmp .ge z) 22 h rfl (zq_o_162 _) (by decide +kernel), ?_⟩
  replace h := zq_nx3 (q := 126) h rfl
  refine ⟨zq_k_n 42 h rfl (zq_o_42 _), ?_⟩
  replace h := zq_nx1 (q := 127) h rfl
  refine ⟨zq_k_u2 180 (fun z => .getfield z) 36 h rfl (zq_o_180 _) (by decide +kernel), ?_⟩
  replace h := zq_nx3 (q := 130) h rfl
  refine ⟨zq_k_n 27 h rfl (zq_o_27 _), ?_⟩
  replace h := zq_nx1 (q := 131) h rfl
  refine ⟨zq_k_u2 187 (fun z => .new z) 34 h rfl (zq_o_187 _) (by decide +kernel), ?_⟩
  replace h := zq_nx3 (q := 134) h rfl
  refine ⟨zq_k_n 89 h rfl (zq_o_89 _), ?_⟩
  replace h := zq_nx1 (q := 135) h rfl
  refine ⟨zq_k_u2 183 (fun z => .invokespecial z) 61 h rfl (zq_o_183 _) (by decide +kernel), ?_⟩
  replace h := zq_nx3 (q := 138) h rfl
  refine ⟨zq_k_n 83 h rfl (zq_o_83 _), ?_⟩
  replace h := zq_nx1 (q := 139) h rfl
  refine ⟨zq_k_iinc 1 1 h rfl (zq_o_132 _) (by decide +kernel) (by decide +kernel), ?_⟩
  replace h := zq_nx3 (q := 142) h rfl
  exact zq_k_s2 167 (fun z => .goto z) (-21) h rfl (zq_o_167 _) (by decide +kernel)
set_option maxRecDepth 100000 in
theorem dd_Q_new_145 : decode prog_1_method_1_code 145 = .ok (.return_, 1) := by
  have h : List.drop 145 prog_1_method_1_code.data.toList = 0xb1 :: _ := rfl
  exact zq_k_n 177 h rfl (zq_o_177 _)
def f_Q_new_121b (rec121 : Nat → Int32 → mH → Option mH) (b0 : Nat) (b1 : Int32) (h : mH) : Option mH :=
  if (4 : Int32) ≤ b1 then
    some h
  else
    bd1 (gR h b0 0 5) fun x113 =>
    grd (¬ b0 = h.1 ∧ ¬ x113 = h.1) <|
    bd1 (mkn h 3 (.inr (5, [.int 0, .int 0, .null]))) fun h117 =>
    grd (b0 < h117.1 ∧ h.1 < h117.1 ∧ x113 < h117.1) <|
    bd1 (f_Sheet_new h.1 h117) fun h124 =>
    bd1 (sR h124 5 x113 5 b1 h.1) fun h126 =>
    rec121 b0 (b1 + (1 : Int32)) h126
set_option maxRecDepth 20000 in
theorem t_Q_new_121b {sc : Nat × (Nat → Int32)} (rec121 : Nat → Int32 → mH → Option mH) (hrec121 : ∀ (b0 : Nat) (b1 : Int32) (h : mH) (h' : mH), rec121 b0 b1 h = some h' → G sc y_Q_new prog_1_method_1_code 2 none 3 60 121 [(0, .ref b0), (1, .int b1)] [] h none h') (b0 : Nat) (b1 : Int32) (h : mH) (h' : mH) (hf : f_Q_new_121b rec121 b0 b1 h = some h') : G sc y_Q_new prog_1_method_1_code 2 none 3 60 121 [(0, .ref b0), (1, .int b1)] [] h none h' := by
  unfold f_Q_new_121b at hf
  refine g_iload_n (pc := 121) 1 dd_Q_new_97.2.2.2.2.2.2.2.2.2.2.2.2.1 rfl rfl ?_
  refine g_iconst (pc := 122) (4 : Int32) dd_Q_new_97.2.2.2.2.2.2.2.2.2.2.2.2.2.1 (by decide) ?_
  refine g_icmpge (pc := 123) 145 dd_Q_new_97.2.2.2.2.2.2.2.2.2.2.2.2.2.2.1 (by decide) (fun c128 => ?_) (fun c128 => ?_)
  · replace hf := (if_pos c128).symm.trans hf
    obtain rfl := ret1 hf
    exact g_vret (pc := 145) rfl dd_Q_new_145
  · replace hf := (if_neg c128).symm.trans hf
    refine g_aload_n (pc := 126) 0 dd_Q_new_97.2.2.2.2.2.2.2.2.2.2.2.2.2.2.2.1 rfl rfl ?_
    obtain ⟨x113, e114, hf⟩ := bd1_e hf
    refine g_get (pc := 127) (ci := 0) (kk := 5) dd_Q_new_97.2.2.2.2.2.2.2.2.2.2.2.2.2.2.2.2.1 rfl in_Q (by decide) wd_301 (gR_spec e114) ?_
    refine g_iload_n (pc := 130) 1 dd_Q_new_97.2.2.2.2.2.2.2.2.2.2.2.2.2.2.2.2.2.1 rfl rfl ?_
    obtain ⟨⟨g115, g116⟩, hf⟩ := grd_e hf
    obtain ⟨h117, e118, hf⟩ := bd1_e hf
    obtain ⟨g119, e120⟩ := mkn_e e118
    refine g_new (pc := 131) (ci := 5) rfl [.int 0, .int 0, .null] ty_Sheet tyok_Sheet dd_Q_new_97.2.2.2.2.2.2.2.2.2.2.2.2.2.2.2.2.2.2.1 rfl in_Sheet wd_196 wd_280 wd_8 (by decide) (by simp) g119 (okl_cons (okv_r (by omega)) (okl_cons (fun _ z => by cases z) (okl_nil))) (oks_cons (fun _ z => by cases z) (oks_cons (okv_r (by omega)) (oks_nil))) ?_
    rw [← e120]
    have h117_n : h117.1 = h.1 + 1 := by rw [e120]; rfl
    refine g_dup (pc := 134) dd_Q_new_97.2.2.2.2.2.2.2.2.2.2.2.2.2.2.2.2.2.2.2.1 rfl ?_
    obtain ⟨⟨g121, g122, g123⟩, hf⟩ := grd_e hf
    obtain ⟨h124, e125, hf⟩ := bd1_e hf
    refine g_callIN (pc := 135) "QuotaLaws" [] (site_of si_Sheet_new (by decide) (by decide)) rfl wd_281 wd_282 dd_Q_new_97.2.2.2.2.2.2.2.2.2.2.2.2.2.2.2.2.2.2.2.2.1 (Nat.le_of_ble_eq_true rfl) (fun _ => rfl) (fun _ => (okl_cons (okv_r (by omega)) (okl_cons (fun _ z => by cases z) (okl_nil)))) (fun _ => (oks_cons (okv_r (by omega)) (oks_cons (fun _ z => by cases z) (oks_cons (okv_r (by omega)) (oks_nil))))) (c_Sheet_new e125) rfl ?_
    refine g_st [.ref h.1, .int b1, .ref x113] rfl ?_
    obtain ⟨h126, e127, hf⟩ := bd1_e hf
    refine g_aast (pc := 138) dd_Q_new_97.2.2.2.2.2.2.2.2.2.2.2.2.2.2.2.2.2.2.2.2.2.1 (ci := 5) rfl (fun _ => rfl) e127 ?_
    refine g_iinc (pc := 139) 1 (b1 + (1 : Int32)) [(1, .int (b1 + (1 : Int32))), (0, .ref b0)] dd_Q_new_97.2.2.2.2.2.2.2.2.2.2.2.2.2.2.2.2.2.2.2.2.2.2.1 rfl rfl (Nat.le_of_ble_eq_true rfl) rfl ?_
    refine g_goto (pc := 142) 121 dd_Q_new_97.2.2.2.2.2.2.2.2.2.2.2.2.2.2.2.2.2.2.2.2.2.2.2 (by decide) ?_
    refine g_lv [1, 0] rfl ?_
    exact hrec121 _ _ _ _  hf
def f_Q_new_121  : Nat → Nat → Int32 → mH → Option mH
  | 0 => fun _ _ _ => none
  | n + 1 => f_Q_new_121b  (f_Q_new_121  n)
theorem t_Q_new_121 {sc : Nat × (Nat → Int32)}  : ∀ (n : Nat) (b0 : Nat) (b1 : Int32) (h : mH) (h' : mH) (hf : f_Q_new_121  n b0 b1 h = some h'), G sc y_Q_new prog_1_method_1_code 2 none 3 60 121 [(0, .ref b0), (1, .int b1)] [] h none h'
  | 0, _, _, _, _, hf => by cases hf
  | n + 1, _, _, _, _, hf => t_Q_new_121b  (f_Q_new_121  n) (t_Q_new_121  n) _ _ _ _ hf
def f_Q_new_95b (rec95 : Nat → Int32 → mH → Option mH) (b0 : Nat) (b1 : Int32) (h : mH) : Option mH :=
  if (2 : Int32) ≤ b1 then
    f_Q_new_121  FU b0 (0 : Int32) h
  else
    bd1 (gR h b0 0 3) fun x97 =>
    grd (¬ b0 = h.1 ∧ ¬ x97 = h.1) <|
    bd1 (mkn h 19 (.inr (4, [.int 0, .int 0, .int 0, .int 0, .int 0, .int 0, .null, .null, .null, .null, .null, .null, .null, .null, .null, .null, .null, .null, .null]))) fun h101 =>
    grd (b0 < h101.1 ∧ h.1 < h101.1 ∧ x97 < h101.1) <|
    bd1 (f_Realm_new h.1 h101) fun h108 =>
    bd1 (sR h108 4 x97 4 b1 h.1) fun h110 =>
    rec95 b0 (b1 + (1 : Int32)) h110
set_option maxRecDepth 20000 in
theorem t_Q_new_95b {sc : Nat × (Nat → Int32)} (rec95 : Nat → Int32 → mH → Option mH) (hrec95 : ∀ (b0 : Nat) (b1 : Int32) (h : mH) (h' : mH), rec95 b0 b1 h = some h' → G sc y_Q_new prog_1_method_1_code 2 none 3 60 95 [(0, .ref b0), (1, .int b1)] [] h none h') (b0 : Nat) (b1 : Int32) (h : mH) (h' : mH) (hf : f_Q_new_95b rec95 b0 b1 h = some h') : G sc y_Q_new prog_1_method_1_code 2 none 3 60 95 [(0, .ref b0), (1, .int b1)] [] h none h' := by
  unfold f_Q_new_95b at hf
  refine g_iload_n (pc := 95) 1 dd_Q_new_49.2.2.2.2.2.2.2.2.2.2.2.2.2.2.2.2.2.2.2.2.2.2.1 rfl rfl ?_
  refine g_iconst (pc := 96) (2 : Int32) dd_Q_new_49.2.2.2.2.2.2.2.2.2.2.2.2.2.2.2.2.2.2.2.2.2.2.2 (by decide) ?_
  refine g_icmpge (pc := 97) 119 dd_Q_new_97.1 (by decide) (fun c112 => ?_) (fun c112 => ?_)
  · replace hf := (if_pos c112).symm.trans hf
    refine g_iconst (pc := 119) (0 : Int32) dd_Q_new_97.2.2.2.2.2.2.2.2.2.2.1 (by decide) ?_
    refine g_istore_n (pc := 120) [(1, .int (0 : Int32)), (0, .ref b0)] dd_Q_new_97.2.2.2.2.2.2.2.2.2.2.2.1 rfl (Nat.le_of_ble_eq_true rfl) rfl ?_
    refine g_lv [1, 0] rfl ?_
    exact t_Q_new_121  FU _ _ _ _  hf
  · replace hf := (if_neg c112).symm.trans hf
    refine g_aload_n (pc := 100) 0 dd_Q_new_97.2.1 rfl rfl ?_
    obtain ⟨x97, e98, hf⟩ := bd1_e hf
    refine g_get (pc := 101) (ci := 0) (kk := 3) dd_Q_new_97.2.2.1 rfl in_Q (by decide) wd_299 (gR_spec e98) ?_
    refine g_iload_n (pc := 104) 1 dd_Q_new_97.2.2.2.1 rfl rfl ?_
    obtain ⟨⟨g99, g100⟩, hf⟩ := grd_e hf
    obtain ⟨h101, e102, hf⟩ := bd1_e hf
    obtain ⟨g103, e104⟩ := mkn_e e102
    refine g_new (pc := 105) (ci := 4) rfl [.int 0, .int 0, .int 0, .int 0, .int 0, .int 0, .null, .null, .null, .null, .null, .null, .null, .null, .null, .null, .null, .null, .null] ty_Realm tyok_Realm dd_Q_new_97.2.2.2.2.1 rfl in_Realm wd_65 wd_66 wd_3 (by decide) (by simp) g103 (okl_cons (okv_r (by omega)) (okl_cons (fun _ z => by cases z) (okl_nil))) (oks_cons (fun _ z => by cases z) (oks_cons (okv_r (by omega)) (oks_nil))) ?_
    rw [← e104]
    have h101_n : h101.1 = h.1 + 1 := by rw [e104]; rfl
    refine g_dup (pc := 108) dd_Q_new_97.2.2.2.2.2.1 rfl ?_
    obtain ⟨⟨g105, g106, g107⟩, hf⟩ := grd_e hf
    obtain ⟨h108, e109, hf⟩ := bd1_e hf
    refine g_callIN (pc := 109) "QuotaLaws" [] (site_of si_Realm_new (by decide) (by decide)) rfl wd_67 wd_68 dd_Q_new_97.2.2.2.2.2.2.1 (Nat.le_of_ble_eq_true rfl) (fun _ => rfl) (fun _ => (okl_cons (okv_r (by omega)) (okl_cons (fun _ z => by cases z) (okl_nil)))) (fun _ => (oks_cons (okv_r (by omega)) (oks_cons (fun _ z => by cases z) (oks_cons (okv_r (by omega)) (oks_nil))))) (c_Realm_new e109) rfl ?_
    refine g_st [.ref h.1, .int b1, .ref x97] rfl ?_
    obtain ⟨h110, e111, hf⟩ := bd1_e hf
    refine g_aast (pc := 112) dd_Q_new_97.2.2.2.2.2.2.2.1 (ci := 4) rfl (fun _ => rfl) e111 ?_
    refine g_iinc (pc := 113) 1 (b1 + (1 : Int32)) [(1, .int (b1 + (1 : Int32))), (0, .ref b0)] dd_Q_new_97.2.2.2.2.2.2.2.2.1 rfl rfl (Nat.le_of_ble_eq_true rfl) rfl ?_
    refine g_goto (pc := 116) 95 dd_Q_new_97.2.2.2.2.2.2.2.2.2.1 (by decide) ?_
    refine g_lv [1, 0] rfl ?_
    exact hrec95 _ _ _ _  hf
def f_Q_new_95  : Nat → Nat → Int32 → mH → Option mH
  | 0 => fun _ _ _ => none
  | n + 1 => f_Q_new_95b  (f_Q_new_95  n)
theorem t_Q_new_95 {sc : Nat × (Nat → Int32)}  : ∀ (n : Nat) (b0 : Nat) (b1 : Int32) (h : mH) (h' : mH) (hf : f_Q_new_95  n b0 b1 h = some h'), G sc y_Q_new prog_1_method_1_code 2 none 3 60 95 [(0, .ref b0), (1, .int b1)] [] h none h'
  | 0, _, _, _, _, hf => by cases hf
  | n + 1, _, _, _, _, hf => t_Q_new_95b  (f_Q_new_95  n) (t_Q_new_95  n) _ _ _ _ hf
def f_Q_new_0  (a0 : Nat) (h : mH) : Option mH :=
  grd (¬ a0 = h.1) <|
  bd1 (mkn h 9 (.inr (3, [.null, .int 0, .int 0, .int 0, .int 0, .int 0, .int 0, .int 0, .int 0]))) fun h2 =>
  grd (a0 < h2.1 ∧ h.1 < h2.1) <|
  bd1 (f_Reader_new h.1 h2) fun h8 =>
  grd (h.1 < h8.1) <|
  bd1 (pV h8 a0 0 0 (.ref h.1)) fun h10 =>
  grd (¬ a0 = h10.1) <|
  bd1 (mkn h10 19 (.inr (4, [.int 0, .int 0, .int 0, .int 0, .int 0, .int 0, .null, .null, .null, .null, .null, .null, .null, .null, .null, .null, .null, .null, .null]))) fun h14 =>
  grd (a0 < h14.1 ∧ h10.1 < h14.1) <|
  bd1 (f_Realm_new h10.1 h14) fun h20 =>
  grd (h10.1 < h20.1) <|
  bd1 (pV h20 a0 0 1 (.ref h10.1)) fun h22 =>
  grd (¬ a0 = h22.1) <|
  bd1 (mkn h22 19 (.inr (4, [.int 0, .int 0, .int 0, .int 0, .int 0, .int 0, .null, .null, .null, .null, .null, .null, .null, .null, .null, .null, .null, .null, .null]))) fun h26 =>
  grd (a0 < h26.1 ∧ h22.1 < h26.1) <|
  bd1 (f_Realm_new h22.1 h26) fun h32 =>
  grd (h22.1 < h32.1) <|
  bd1 (pV h32 a0 0 2 (.ref h22.1)) fun h34 =>
  grd (¬ a0 = h34.1) <|
  bd1 (mkn h34 2 (.inl (4, 2, .inr (.inr (.inr (.inr (fun _ => none))))))) fun h38 =>
  grd (h34.1 < h38.1) <|
  bd1 (pV h38 a0 0 3 (.ref h34.1)) fun h42 =>
  grd (¬ a0 = h42.1) <|
  bd1 (mkn h42 2 (.inl (2, (2, .inl (fun _ => 0))))) fun h46 =>
  grd (h42.1 < h46.1) <|
  bd1 (pV h46 a0 0 4 (.ref h42.1)) fun h50 =>
  grd (¬ a0 = h50.1) <|
  bd1 (mkn h50 4 (.inl (5, 4, .inr (.inr (.inr (.inr (fun _ => none))))))) fun h54 =>
  grd (h50.1 < h54.1) <|
  bd1 (pV h54 a0 0 5 (.ref h50.1)) fun h58 =>
  grd (¬ a0 = h58.1) <|
  bd1 (mkn h58 8 (.inr (2, [.int 0, .null, .null, .null, .null, .null, .null, .null]))) fun h62 =>
  grd (a0 < h62.1 ∧ h58.1 < h62.1) <|
  bd1 (f_Planner_new h58.1 h62) fun h68 =>
  grd (h58.1 < h68.1) <|
  bd1 (pV h68 a0 0 6 (.ref h58.1)) fun h70 =>
  grd (¬ a0 = h70.1) <|
  bd1 (mkn h70 8 (.inr (7, [.int 0, .null, .null, .null, .null, .null, .null, .null]))) fun h74 =>
  grd (a0 < h74.1 ∧ h70.1 < h74.1) <|
  bd1 (f_Tables_new h70.1 h74) fun h80 =>
  grd (h70.1 < h80.1) <|
  bd1 (pV h80 a0 0 7 (.ref h70.1)) fun h82 =>
  grd (¬ a0 = h82.1) <|
  bd1 (mkn h82 3 (.inr (1, [.long 0, .long 0, .null]))) fun h86 =>
  grd (a0 < h86.1 ∧ h82.1 < h86.1) <|
  bd1 (f_Odds_new h82.1 h86) fun h92 =>
  grd (h82.1 < h92.1) <|
  bd1 (pV h92 a0 0 8 (.ref h82.1)) fun h94 =>
  f_Q_new_95  FU a0 (0 : Int32) h94
set_option maxRecDepth 20000 in
theorem t_Q_new_0 {sc : Nat × (Nat → Int32)}  (a0 : Nat) (h : mH) (h' : mH) (hf : f_Q_new_0  a0 h = some h') : G sc y_Q_new prog_1_method_1_code 2 none 3 60 0 [(0, .ref a0)] [] h none h' := by
  unfold f_Q_new_0 at hf
  refine g_aload_n (pc := 0) 0 dd_Q_new_0.1 rfl rfl ?_
  refine g_objInit (pc := 1) dd_Q_new_0.2.1 wd_23 wd_24 wd_25 (by decide) (Nat.le_of_ble_eq_true rfl) ?_
  refine g_aload_n (pc := 4) 0 dd_Q_new_0.2.2.1 rfl rfl ?_
  obtain ⟨g1, hf⟩ := grd_e hf
  obtain ⟨h2, e3, hf⟩ := bd1_e hf
  obtain ⟨g4, e5⟩ := mkn_e e3
  refine g_new (pc := 5) (ci := 3) rfl [.null, .int 0, .int 0, .int 0, .int 0, .int 0, .int 0, .int 0, .int 0] ty_Reader tyok_Reader dd_Q_new_0.2.2.2.1 rfl in_Reader wd_26 wd_27 wd_2 (by decide) (by simp) g4 (okl_cons (okv_r (by omega)) (okl_nil)) (oks_cons (okv_r (by omega)) (oks_nil)) ?_
  rw [← e5]
  have h2_n : h2.1 = h.1 + 1 := by rw [e5]; rfl
  refine g_dup (pc := 8) dd_Q_new_0.2.2.2.2.1 rfl ?_
  obtain ⟨⟨g6, g7⟩, hf⟩ := grd_e hf
  obtain ⟨h8, e9, hf⟩ := bd1_e hf
  refine g_callIN (pc := 9) "QuotaLaws" [] (site_of si_Reader_new (by decide) (by decide)) rfl wd_28 wd_29 dd_Q_new_0.2.2.2.2.2.1 (Nat.le_of_ble_eq_true rfl) (fun _ => rfl) (fun _ => (okl_cons (okv_r (by omega)) (okl_nil))) (fun _ => (oks_cons (okv_r (by omega)) (oks_cons (okv_r (by omega)) (oks_nil)))) (c_Reader_new e9) rfl ?_
  refine g_st [.ref h.1, .ref a0] rfl ?_
  obtain ⟨g12, hf⟩ := grd_e hf
  obtain ⟨h10, e11, hf⟩ := bd1_e hf
  refine g_putF (pc := 12) (ci := 0) (kk := 0) ty_Q tyok_Q nm_Q dd_Q_new_0.2.2.2.2.2.2.1 rfl in_Q (by decide) wd_296 rfl rfl rfl (fun _ => rfl) (fun _ => rfl) (fun _ z => by cases z; omega) e11 ?_
  refine g_aload_n (pc := 15) 0 dd_Q_new_0.2.2.2.2.2.2.2.1 rfl rfl ?_
  obtain ⟨g13, hf⟩ := grd_e hf
  obtain ⟨h14, e15, hf⟩ := bd1_e hf
  obtain ⟨g16, e17⟩ := mkn_e e15
  refine g_new (pc := 16) (ci := 4) rfl [.int 0, .int 0, .int 0, .int 0, .int 0, .int 0, .null, .null, .null, .null, .null, .null, .null, .null, .null, .null, .null, .null, .null] ty_Realm tyok_Realm dd_Q_new_0.2.2.2.2.2.2.2.2.1 rfl in_Realm wd_65 wd_66 wd_3 (by decide) (by simp) g16 (okl_cons (okv_r (by omega)) (okl_nil)) (oks_cons (okv_r (by omega)) (oks_nil)) ?_
  rw [← e17]
  have h14_n : h14.1 = h10.1 + 1 := by rw [e17]; rfl
  refine g_dup (pc := 19) dd_Q_new_0.2.2.2.2.2.2.2.2.2.1 rfl ?_
  obtain ⟨⟨g18, g19⟩, hf⟩ := grd_e hf
  obtain ⟨h20, e21, hf⟩ := bd1_e hf
  refine g_callIN (pc := 20) "QuotaLaws" [] (site_of si_Realm_new (by decide) (by decide)) rfl wd_67 wd_68 dd_Q_new_0.2.2.2.2.2.2.2.2.2.2.1 (Nat.le_of_ble_eq_true rfl) (fun _ => rfl) (fun _ => (okl_cons (okv_r (by omega)) (okl_nil))) (fun _ => (oks_cons (okv_r (by omega)) (oks_cons (okv_r (by omega)) (oks_nil)))) (c_Realm_new e21) rfl ?_
  refine g_st [.ref h10.1, .ref a0] rfl ?_
  obtain ⟨g24, hf⟩ := grd_e hf
  obtain ⟨h22, e23, hf⟩ := bd1_e hf
  refine g_putF (pc := 23) (ci := 0) (kk := 1) ty_Q tyok_Q nm_Q dd_Q_new_0.2.2.2.2.2.2.2.2.2.2.2.1 rfl in_Q (by decide) wd_297 rfl rfl rfl (fun _ => rfl) (fun _ => rfl) (fun _ z => by cases z; omega) e23 ?_
  refine g_aload_n (pc := 26) 0 dd_Q_new_0.2.2.2.2.2.2.2.2.2.2.2.2.1 rfl rfl ?_
  obtain ⟨g25, hf⟩ := grd_e hf
  obtain ⟨h26, e27, hf⟩ := bd1_e hf
  obtain ⟨g28, e29⟩ := mkn_e e27
  refine g_new (pc := 27) (ci := 4) rfl [.int 0, .int 0, .int 0, .int 0, .int 0, .int 0, .null, .null, .null, .null, .null, .null, .null, .null, .null, .null, .null, .null, .null] ty_Realm tyok_Realm dd_Q_new_0.2.2.2.2.2.2.2.2.2.2.2.2.2.1 rfl in_Realm wd_65 wd_66 wd_3 (by decide) (by simp) g28 (okl_cons (okv_r (by omega)) (okl_nil)) (oks_cons (okv_r (by omega)) (oks_nil)) ?_
  rw [← e29]
  have h26_n : h26.1 = h22.1 + 1 := by rw [e29]; rfl
  refine g_dup (pc := 30) dd_Q_new_0.2.2.2.2.2.2.2.2.2.2.2.2.2.2.1 rfl ?_
  obtain ⟨⟨g30, g31⟩, hf⟩ := grd_e hf
  obtain ⟨h32, e33, hf⟩ := bd1_e hf
  refine g_callIN (pc := 31) "QuotaLaws" [] (site_of si_Realm_new (by decide) (by decide)) rfl wd_67 wd_68 dd_Q_new_0.2.2.2.2.2.2.2.2.2.2.2.2.2.2.2.1 (Nat.le_of_ble_eq_true rfl) (fun _ => rfl) (fun _ => (okl_cons (okv_r (by omega)) (okl_nil))) (fun _ => (oks_cons (okv_r (by omega)) (oks_cons (okv_r (by omega)) (oks_nil)))) (c_Realm_new e33) rfl ?_
  refine g_st [.ref h22.1, .ref a0] rfl ?_
  obtain ⟨g36, hf⟩ := grd_e hf
  obtain ⟨h34, e35, hf⟩ := bd1_e hf
  refine g_putF (pc := 34) (ci := 0) (kk := 2) ty_Q tyok_Q nm_Q dd_Q_new_0.2.2.2.2.2.2.2.2.2.2.2.2.2.2.2.2.1 rfl in_Q (by decide) wd_298 rfl rfl rfl (fun _ => rfl) (fun _ => rfl) (fun _ z => by cases z; omega) e35 ?_
  refine g_aload_n (pc := 37) 0 dd_Q_new_0.2.2.2.2.2.2.2.2.2.2.2.2.2.2.2.2.2.1 rfl rfl ?_
  refine g_iconst (pc := 38) (2 : Int32) dd_Q_new_0.2.2.2.2.2.2.2.2.2.2.2.2.2.2.2.2.2.2.1 (by decide) ?_
  obtain ⟨g37, hf⟩ := grd_e hf
  obtain ⟨h38, e39, hf⟩ := bd1_e hf
  obtain ⟨g40, e41⟩ := mkn_e e39
  refine g_newq (pc := 39) rfl 4 2 "QuotaLaws$Realm" wd_65 (by decide) (fun _ => rfl) (by decide) (by decide) (by decide) dd_Q_new_0.2.2.2.2.2.2.2.2.2.2.2.2.2.2.2.2.2.2.2.1 g40 (okl_cons (okv_r (by omega)) (okl_nil)) (oks_cons (okv_r (by omega)) (oks_nil)) ?_
  rw [← e41]
  have h38_n : h38.1 = h34.1 + 1 := by rw [e41]; rfl
  obtain ⟨g44, hf⟩ := grd_e hf
  obtain ⟨h42, e43, hf⟩ := bd1_e hf
  refine g_putF (pc := 42) (ci := 0) (kk := 3) ty_Q tyok_Q nm_Q dd_Q_new_0.2.2.2.2.2.2.2.2.2.2.2.2.2.2.2.2.2.2.2.2.1 rfl in_Q (by decide) wd_299 rfl rfl rfl (fun _ => rfl) (fun _ => rfl) (fun _ z => by cases z; omega) e43 ?_
  refine g_aload_n (pc := 45) 0 dd_Q_new_0.2.2.2.2.2.2.2.2.2.2.2.2.2.2.2.2.2.2.2.2.2.1 rfl rfl ?_
  refine g_iconst (pc := 46) (2 : Int32) dd_Q_new_0.2.2.2.2.2.2.2.2.2.2.2.2.2.2.2.2.2.2.2.2.2.2.1 (by decide) ?_
  obtain ⟨g45, hf⟩ := grd_e hf
  obtain ⟨h46, e47, hf⟩ := bd1_e hf
  obtain ⟨g48, e49⟩ := mkn_e e47
  refine g_newa (pc := 47) rfl 2 2 .boolean (2, .inl (fun _ => 0)) wd_229 rfl (fun _ => rfl) (fun _ _ _ a b => Option.some.inj (a.symm.trans b)) (fun _ => rfl) (fun _ => rfl) (fun _ z => absurd z id) (by decide) (by decide) (by decide) dd_Q_new_0.2.2.2.2.2.2.2.2.2.2.2.2.2.2.2.2.2.2.2.2.2.2.2 g48 (okl_cons (okv_r (by omega)) (okl_nil)) (oks_cons (okv_r (by omega)) (oks_nil)) ?_
  rw [← e49]
  have h46_n : h46.1 = h42.1 + 1 := by rw [e49]; rfl
  obtain ⟨g52, hf⟩ := grd_e hf
  obtain ⟨h50, e51, hf⟩ := bd1_e hf
  refine g_putF (pc := 49) (ci := 0) (kk := 4) ty_Q tyok_Q nm_Q dd_Q_new_49.1 rfl in_Q (by decide) wd_300 rfl rfl rfl (fun _ => rfl) (fun _ => rfl) (fun _ z => by cases z; omega) e51 ?_
  refine g_aload_n (pc := 52) 0 dd_Q_new_49.2.1 rfl rfl ?_
  refine g_iconst (pc := 53) (4 : Int32) dd_Q_new_49.2.2.1 (by decide) ?_
  obtain ⟨g53, hf⟩ := grd_e hf
  obtain ⟨h54, e55, hf⟩ := bd1_e hf
  obtain ⟨g56, e57⟩ := mkn_e e55
  refine g_newq (pc := 54) rfl 5 4 "QuotaLaws$Sheet" wd_196 (by decide) (fun _ => rfl) (by decide) (by decide) (by decide) dd_Q_new_49.2.2.2.1 g56 (okl_cons (okv_r (by omega)) (okl_nil)) (oks_cons (okv_r (by omega)) (oks_nil)) ?_
  rw [← e57]
  have h54_n : h54.1 = h50.1 + 1 := by rw [e57]; rfl
  obtain ⟨g60, hf⟩ := grd_e hf
  obtain ⟨h58, e59, hf⟩ := bd1_e hf
  refine g_putF (pc := 57) (ci := 0) (kk := 5) ty_Q tyok_Q nm_Q dd_Q_new_49.2.2.2.2.1 rfl in_Q (by decide) wd_301 rfl rfl rfl (fun _ => rfl) (fun _ => rfl) (fun _ z => by cases z; omega) e59 ?_
  refine g_aload_n (pc := 60) 0 dd_Q_new_49.2.2.2.2.2.1 rfl rfl ?_
  obtain ⟨g61, hf⟩ := grd_e hf
  obtain ⟨h62, e63, hf⟩ := bd1_e hf
  obtain ⟨g64, e65⟩ := mkn_e e63
  refine g_new (pc := 61) (ci := 2) rfl [.int 0, .null, .null, .null, .null, .null, .null, .null] ty_Planner tyok_Planner dd_Q_new_49.2.2.2.2.2.2.1 rfl in_Planner wd_198 wd_199 wd_5 (by decide) (by simp) g64 (okl_cons (okv_r (by omega)) (okl_nil)) (oks_cons (okv_r (by omega)) (oks_nil)) ?_
  rw [← e65]
  have h62_n : h62.1 = h58.1 + 1 := by rw [e65]; rfl
  refine g_dup (pc := 64) dd_Q_new_49.2.2.2.2.2.2.2.1 rfl ?_
  obtain ⟨⟨g66, g67⟩, hf⟩ := grd_e hf
  obtain ⟨h68, e69, hf⟩ := bd1_e hf
  refine g_callIN (pc := 65) "QuotaLaws" [] (site_of si_Planner_new (by decide) (by decide)) rfl wd_200 wd_201 dd_Q_new_49.2.2.2.2.2.2.2.2.1 (Nat.le_of_ble_eq_true rfl) (fun _ => rfl) (fun _ => (okl_cons (okv_r (by omega)) (okl_nil))) (fun _ => (oks_cons (okv_r (by omega)) (oks_cons (okv_r (by omega)) (oks_nil)))) (c_Planner_new e69) rfl ?_
  refine g_st [.ref h58.1, .ref a0] rfl ?_
  obtain ⟨g72, hf⟩ := grd_e hf
  obtain ⟨h70, e71, hf⟩ := bd1_e hf
  refine g_putF (pc := 68) (ci := 0) (kk := 6) ty_Q tyok_Q nm_Q dd_Q_new_49.2.2.2.2.2.2.2.2.2.1 rfl in_Q (by decide) wd_302 rfl rfl rfl (fun _ => rfl) (fun _ => rfl) (fun _ z => by cases z; omega) e71 ?_
  refine g_aload_n (pc := 71) 0 dd_Q_new_49.2.2.2.2.2.2.2.2.2.2.1 rfl rfl ?_
  obtain ⟨g73, hf⟩ := grd_e hf
  obtain ⟨h74, e75, hf⟩ := bd1_e hf
  obtain ⟨g76, e77⟩ := mkn_e e75
  refine g_new (pc := 72) (ci := 7) rfl [.int 0, .null, .null, .null, .null, .null, .null, .null] ty_Tables tyok_Tables dd_Q_new_49.2.2.2.2.2.2.2.2.2.2.2.1 rfl in_Tables wd_230 wd_231 wd_6 (by decide) (by simp) g76 (okl_cons (okv_r (by omega)) (okl_nil)) (oks_cons (okv_r (by omega)) (oks_nil)) ?_
  rw [← e77]
  have h74_n : h74.1 = h70.1 + 1 := by rw [e77]; rfl
  refine g_dup (pc := 75) dd_Q_new_49.2.2.2.2.2.2.2.2.2.2.2.2.1 rfl ?_
  obtain ⟨⟨g78, g79⟩, hf⟩ := grd_e hf
  obtain ⟨h80, e81, hf⟩ := bd1_e hf
  refine g_callIN (pc := 76) "QuotaLaws" [] (site_of si_Tables_new (by decide) (by decide)) rfl wd_232 wd_233 dd_Q_new_49.2.2.2.2.2.2.2.2.2.2.2.2.2.1 (Nat.le_of_ble_eq_true rfl) (fun _ => rfl) (fun _ => (okl_cons (okv_r (by omega)) (okl_nil))) (fun _ => (oks_cons (okv_r (by omega)) (oks_cons (okv_r (by omega)) (oks_nil)))) (c_Tables_new e81) rfl ?_
  refine g_st [.ref h70.1, .ref a0] rfl ?_
  obtain ⟨g84, hf⟩ := grd_e hf
  obtain ⟨h82, e83, hf⟩ := bd1_e hf
  refine g_putF (pc := 79) (ci := 0) (kk := 7) ty_Q tyok_Q nm_Q dd_Q_new_49.2.2.2.2.2.2.2.2.2.2.2.2.2.2.1 rfl in_Q (by decide) wd_303 rfl rfl rfl (fun _ => rfl) (fun _ => rfl) (fun _ z => by cases z; omega) e83 ?_
  refine g_aload_n (pc := 82) 0 dd_Q_new_49.2.2.2.2.2.2.2.2.2.2.2.2.2.2.2.1 rfl rfl ?_
  obtain ⟨g85, hf⟩ := grd_e hf
  obtain ⟨h86, e87, hf⟩ := bd1_e hf
  obtain ⟨g88, e89⟩ := mkn_e e87
  refine g_new (pc := 83) (ci := 1) rfl [.long 0, .long 0, .null] ty_Odds tyok_Odds dd_Q_new_49.2.2.2.2.2.2.2.2.2.2.2.2.2.2.2.2.1 rfl in_Odds wd_262 wd_263 wd_7 (by decide) (by simp) g88 (okl_cons (okv_r (by omega)) (okl_nil)) (oks_cons (okv_r (by omega)) (oks_nil)) ?_
  rw [← e89]
  have h86_n : h86.1 = h82.1 + 1 := by rw [e89]; rfl
  refine g_dup (pc := 86) dd_Q_new_49.2.2.2.2.2.2.2.2.2.2.2.2.2.2.2.2.2.1 rfl ?_
  obtain ⟨⟨g90, g91⟩, hf⟩ := grd_e hf
  obtain ⟨h92, e93, hf⟩ := bd1_e hf
  refine g_callIN (pc := 87) "QuotaLaws" [] (site_of si_Odds_new (by decide) (by decide)) rfl wd_264 wd_265 dd_Q_new_49.2.2.2.2.2.2.2.2.2.2.2.2.2.2.2.2.2.2.1 (Nat.le_of_ble_eq_true rfl) (fun _ => rfl) (fun _ => (okl_cons (okv_r (by omega)) (okl_nil))) (fun _ => (oks_cons (okv_r (by omega)) (oks_cons (okv_r (by omega)) (oks_nil)))) (c_Odds_new e93) rfl ?_
  refine g_st [.ref h82.1, .ref a0] rfl ?_
  obtain ⟨g96, hf⟩ := grd_e hf
  obtain ⟨h94, e95, hf⟩ := bd1_e hf
  refine g_putF (pc := 90) (ci := 0) (kk := 8) ty_Q tyok_Q nm_Q dd_Q_new_49.2.2.2.2.2.2.2.2.2.2.2.2.2.2.2.2.2.2.2.1 rfl in_Q (by decide) wd_304 rfl rfl rfl (fun _ => rfl) (fun _ => rfl) (fun _ z => by cases z; omega) e95 ?_
  refine g_iconst (pc := 93) (0 : Int32) dd_Q_new_49.2.2.2.2.2.2.2.2.2.2.2.2.2.2.2.2.2.2.2.2.1 (by decide) ?_
  refine g_istore_n (pc := 94) [(1, .int (0 : Int32)), (0, .ref a0)] dd_Q_new_49.2.2.2.2.2.2.2.2.2.2.2.2.2.2.2.2.2.2.2.2.2.1 rfl (Nat.le_of_ble_eq_true rfl) rfl ?_
  refine g_lv [1, 0] rfl ?_
  exact t_Q_new_95  FU _ _ _ _  hf
def f_Q_new (a0 : Nat) (h : mH) : Option mH := f_Q_new_0 a0 h
theorem c_Q_new {sc : Nat × (Nat → Int32)} {a0 : Nat} {h : mH} {h' : mH} (hf : f_Q_new a0 h = some h') : MM sc y_Q_new prog_1_method_1_code 2 none 3 60 [.ref a0] h none h' :=
  mm_of_G si_pn_Q (Nat.le_of_ble_eq_true rfl) (t_Q_new_0 _ _ _ hf)
/-! M init ()V -/
set_option maxRecDepth 100000 in
theorem dd_M_new_0 : (decode prog_10_method_1_code 0 = .ok (.aload_n 0, 1)) ∧ (decode prog_10_method_1_code 1 = .ok (.invokespecial 1, 3)) ∧ (decode prog_10_method_1_code 4 = .ok (.aload_n 0, 1)) ∧ (decode prog_10_method_1_code 5 = .ok (.sipush 198, 3)) ∧ (decode prog_10_method_1_code 8 = .ok (.newarray .int, 2)) ∧ (decode prog_10_method_1_code 10 = .ok (.putfield 7, 3)) ∧ (decode prog_10_method_1_code 13 = .ok (.aload_n 0, 1)) ∧ (decode prog_10_method_1_code 14 = .ok (.iconst 2, 1)) ∧ (decode prog_10_method_1_code 15 = .ok (.newarray .boolean, 2)) ∧ (decode prog_10_method_1_code 17 = .ok (.putfield 13, 3)) ∧ (decode prog_10_method_1_code 20 = .ok (.aload_n 0, 1)) ∧ (decode prog_10_method_1_code 21 = .ok (.iconst 5, 1)) ∧ (decode prog_10_method_1_code 22 = .ok (.newarray .int, 2)) ∧ (decode prog_10_method_1_code 24 = .ok (.putfield 17, 3)) ∧ (decode prog_10_method_1_code 27 = .ok (.aload_n 0, 1)) ∧ (decode prog_10_method_1_code 28 = .ok (.iconst 5, 1)) ∧ (decode prog_10_method_1_code 29 = .ok (.newarray .int, 2)) ∧ (decode prog_10_method_1_code 31 = .ok (.putfield 20, 3)) ∧ (decode prog_10_method_1_code 34 = .ok (.aload_n 0, 1)) ∧ (decode prog_10_method_1_code 35 = .ok (.iconst 5, 1)) ∧ (decode prog_10_method_1_code 36 = .ok (.newarray .int, 2)) ∧ (decode prog_10_method_1_code 38 = .ok (.putfield 23, 3)) ∧ (decode prog_10_method_1_code 41 = .ok (.aload_n 0, 1)) ∧ (decode prog_10_method_1_code 42 = .ok (.iconst 3, 1)) := by
  have h : List.drop 0 prog_10_method_1_code.data.toList = 0x2a :: _ := rfl
  refine ⟨zq_k_n 42 h rfl (zq_o_42 _), ?_⟩
  replace h := zq_nx1 (q := 1) h rfl
  refine ⟨zq_k_u2 183 (fun z => .invokespecial z) 1 h rfl (zq_o_183 _) (by decide +kernel), ?_⟩
  replace h := zq_nx3 (q := 4) h rfl
  refine ⟨zq_k_n 42 h rfl (zq_o_42 _), ?_⟩
  replace h := zq_nx1 (q := 5) h rfl
  refine ⟨zq_k_s2 17 (fun z => .sipush z) 198 h rfl (zq_o_17 _) (by decide +kernel), ?_⟩
  replace h := zq_nx3 (q := 8) h rfl
  refine ⟨by decide +kernel, ?_⟩
  have h : List.drop 10 prog_10_method_1_code.data.toList = 0xb5 :: _ := rfl
  refine ⟨zq_k_u2 181 (fun z => .putfield z) 7 h rfl (zq_o_181 _) (by decide +kernel), ?_⟩
  replace h := zq_nx3 (q := 13) h rfl
  refine ⟨zq_k_n 42 h rfl (zq_o_42 _), ?_⟩
  replace h := zq_nx1 (q := 14) h rfl
  refine ⟨zq_k_n 5 h rfl (zq_o_5 _), ?_⟩
  replace h := zq_nx1 (q := 15) h rfl
  refine ⟨by decide +kernel, ?_⟩
  have h : List.drop 17 prog_10_method_1_code.data.toList = 0xb5 :: _ := rfl
  refine ⟨zq_k_u2 181 (fun z => .putfield z) 13 h rfl (zq_o_181 _) (by decide +kernel), ?_⟩
  replace h := zq_nx3 (q := 20) h rfl
  refine ⟨zq_k_n 42 h rfl (zq_o_42 _), ?_⟩
  replace h := zq_nx1 (q := 21) h rfl
  refine ⟨zq_k_n 8 h rfl (zq_o_8 _), ?_⟩
  replace h := zq_nx1 (q := 22) h rfl
  refine ⟨by decide +kernel, ?_⟩
  have h : List.drop 24 prog_10_method_1_code.data.toList = 0xb5 :: _ := rfl
  refine ⟨zq_k_u2 181 (fun z => .putfield z) 17 h rfl (zq_o_181 _) (by decide +kernel), ?_⟩
  replace h := zq_nx3 (q := 27) h rfl
  refine ⟨zq_k_n 42 h rfl (zq_o_42 _), ?_⟩
  replace h := zq_nx1 (q := 28) h rfl
  refine ⟨zq_k_n 8 h rfl (zq_o_8 _), ?_⟩
  replace h := zq_nx1 (q := 29) h rfl
  refine ⟨by decide +kernel, ?_⟩
  have h : List.drop 31 prog_10_method_1_code.data.toList = 0xb5 :: _ := rfl
  refine ⟨zq_k_u2 181 (fun z => .putfield z) 20 h rfl (zq_o_181 _) (by decide +kernel), ?_⟩
  replace h := zq_nx3 (q := 34) h rfl
  refine ⟨zq_k_n 42 h rfl (zq_o_42 _), ?_⟩
  replace h := zq_nx1 (q := 35) h rfl
  refine ⟨zq_k_n 8 h rfl (zq_o_8 _), ?_⟩
  replace h := zq_nx1 (q := 36) h rfl
  refine ⟨by decide +kernel, ?_⟩
  have h : List.drop 38 prog_10_method_1_code.data.toList = 0xb5 :: _ := rfl
  refine ⟨zq_k_u2 181 (fun z => .putfield z) 23 h rfl (zq_o_181 _) (by decide +kernel), ?_⟩
  replace h := zq_nx3 (q := 41) h rfl
  refine ⟨zq_k_n 42 h rfl (zq_o_42 _), ?_⟩
  replace h := zq_nx1 (q := 42) h rfl
  exact zq_k_n 6 h rfl (zq_o_6 _)
set_option maxRecDepth 100000 in
theorem dd_M_new_43 : (decode prog_10_method_1_code 43 = .ok (.newarray .int, 2)) ∧ (decode prog_10_method_1_code 45 = .ok (.putfield 26, 3)) ∧ (decode prog_10_method_1_code 48 = .ok (.aload_n 0, 1)) ∧ (decode prog_10_method_1_code 49 = .ok (.iconst 3, 1)) ∧ (decode prog_10_method_1_code 50 = .ok (.newarray .int, 2)) ∧ (decode prog_10_method_1_code 52 = .ok (.putfield 29, 3)) ∧ (decode prog_10_method_1_code 55 = .ok (.aload_n 0, 1)) ∧ (decode prog_10_method_1_code 56 = .ok (.bipush 66, 2)) ∧ (decode prog_10_method_1_code 58 = .ok (.newarray .int, 2)) ∧ (decode prog_10_method_1_code 60 = .ok (.putfield 32, 3)) ∧ (decode prog_10_method_1_code 63 = .ok (.aload_n 0, 1)) ∧ (decode prog_10_method_1_code 64 = .ok (.iconst 5, 1)) ∧ (decode prog_10_method_1_code 65 = .ok (.newarray .int, 2)) ∧ (decode prog_10_method_1_code 67 = .ok (.putfield 35, 3)) ∧ (decode prog_10_method_1_code 70 = .ok (.aload_n 0, 1)) ∧ (decode prog_10_method_1_code 71 = .ok (.iconst 5, 1)) ∧ (decode prog_10_method_1_code 72 = .ok (.newarray .int, 2)) ∧ (decode prog_10_method_1_code 74 = .ok (.putfield 38, 3)) ∧ (decode prog_10_method_1_code 77 = .ok (.aload_n 0, 1)) ∧ (decode prog_10_method_1_code 78 = .ok (.iconst 5, 1)) ∧ (decode prog_10_method_1_code 79 = .ok (.newarray .int, 2)) ∧ (decode prog_10_method_1_code 81 = .ok (.putfield 41, 3)) ∧ (decode prog_10_method_1_code 84 = .ok (.aload_n 0, 1)) ∧ (decode prog_10_method_1_code 85 = .ok (.iconst 3, 1)) := by
  refine ⟨by decide +kernel, ?_⟩
  have h : List.drop 45 prog_10_method_1_code.data.toList = 0xb5 :: _ := rfl
  refine ⟨zq_k_u2 181 (fun z => .putfield z) 26 h rfl (zq_o_181 _) (by decide +kernel), ?_⟩
  replace h := zq_nx3 (q := 48) h rfl
  refine ⟨zq_k_n 42 h rfl (zq_o_42 _), ?_⟩
  replace h := zq_nx1 (q := 49) h rfl
  refine ⟨zq_k_n 6 h rfl (zq_o_6 _), ?_⟩
  replace h := zq_nx1 (q := 50) h rfl
  refine ⟨by decide +kernel, ?_⟩
  have h : List.drop 52 prog_10_method_1_code.data.toList = 0xb5 :: _ := rfl
  refine ⟨zq_k_u2 181 (fun z => .putfield z) 29 h rfl (zq_o_181 _) (by decide +kernel), ?_⟩
  replace h := zq_nx3 (q := 55) h rfl
  refine ⟨zq_k_n 42 h rfl (zq_o_42 _), ?_⟩
  replace h := zq_nx1 (q := 56) h rfl
  refine ⟨zq_k_s1 16 (fun z => .bipush z) 66 h rfl (zq_o_16 _) (by decide +kernel), ?_⟩
  replace h := zq_nx2 (q := 58) h rfl
  refine ⟨by decide +kernel, ?_⟩
  have h : List.drop 60 prog_10_method_1_code.data.toList = 0xb5 :: _ := rfl
  refine ⟨zq_k_u2 181 (fun z => .putfield z) 32 h rfl (zq_o_181 _) (by decide +kernel), ?_⟩
  replace h := zq_nx3 (q := 63) h rfl
  refine ⟨zq_k_n 42 h rfl (zq_o_42 _), ?_⟩
  replace h := zq_nx1 (q := 64) h rfl
  refine ⟨zq_k_n 8 h rfl (zq_o_8 _), ?_⟩
  replace h := zq_nx1 (q := 65) h rfl
  refine ⟨by decide +kernel, ?_⟩
  have h : List.drop 67 prog_10_method_1_code.data.toList = 0xb5 :: _ := rfl
  refine ⟨zq_k_u2 181 (fun z => .putfield z) 35 h rfl (zq_o_181 _) (by decide +kernel), ?_⟩
  replace h := zq_nx3 (q := 70) h rfl
  refine ⟨zq_k_n 42 h rfl (zq_o_42 _), ?_⟩
  replace h := zq_nx1 (q := 71) h rfl
  refine ⟨zq_k_n 8 h rfl (zq_o_8 _), ?_⟩
  replace h := zq_nx1 (q := 72) h rfl
  refine ⟨by decide +kernel, ?_⟩
  have h : List.drop 74 prog_10_method_1_code.data.toList = 0xb5 :: _ := rfl
  refine ⟨zq_k_u2 181 (fun z => .putfield z) 38 h rfl (zq_o_181 _) (by decide +kernel), ?_⟩
  replace h := zq_nx3 (q := 77) h rfl
  refine ⟨zq_k_n 42 h rfl (zq_o_42 _), ?_⟩
  replace h := zq_nx1 (q := 78) h rfl
  refine ⟨zq_k_n 8 h rfl (zq_o_8 _), ?_⟩
  replace h := zq_nx1 (q := 79) h rfl
  refine ⟨by decide +kernel, ?_⟩
  have h : List.drop 81 prog_10_method_1_code.data.toList = 0xb5 :: _ := rfl
  refine ⟨zq_k_u2 181 (fun z => .putfield z) 41 h rfl (zq_o_181 _) (by decide +kernel), ?_⟩
  replace h := zq_nx3 (q := 84) h rfl
  refine ⟨zq_k_n 42 h rfl (zq_o_42 _), ?_⟩
  replace h := zq_nx1 (q := 85) h rfl
  exact zq_k_n 6 h rfl (zq_o_6 _)
set_option maxRecDepth 100000 in
theorem dd_M_new_86 : (decode prog_10_method_1_code 86 = .ok (.newarray .int, 2)) ∧ (decode prog_10_method_1_code 88 = .ok (.putfield 44, 3)) ∧ (decode prog_10_method_1_code 91 = .ok (.aload_n 0, 1)) ∧ (decode prog_10_method_1_code 92 = .ok (.iconst 3, 1)) ∧ (decode prog_10_method_1_code 93 = .ok (.newarray .int, 2)) ∧ (decode prog_10_method_1_code 95 = .ok (.putfield 47, 3)) ∧ (decode prog_10_method_1_code 98 = .ok (.aload_n 0, 1)) ∧ (decode prog_10_method_1_code 99 = .ok (.sipush 160, 3)) ∧ (decode prog_10_method_1_code 102 = .ok (.newarray .int, 2)) ∧ (decode prog_10_method_1_code 104 = .ok (.putfield 50, 3)) ∧ (decode prog_10_method_1_code 107 = .ok (.aload_n 0, 1)) ∧ (decode prog_10_method_1_code 108 = .ok (.sipush 24576, 3)) ∧ (decode prog_10_method_1_code 111 = .ok (.newarray .int, 2)) ∧ (decode prog_10_method_1_code 113 = .ok (.putfield 53, 3)) ∧ (decode prog_10_method_1_code 116 = .ok (.aload_n 0, 1)) ∧ (decode prog_10_method_1_code 117 = .ok (.iconst 5, 1)) ∧ (decode prog_10_method_1_code 118 = .ok (.newarray .int, 2)) ∧ (decode prog_10_method_1_code 120 = .ok (.putfield 56, 3)) ∧ (decode prog_10_method_1_code 123 = .ok (.aload_n 0, 1)) ∧ (decode prog_10_method_1_code 124 = .ok (.iconst 3, 1)) ∧ (decode prog_10_method_1_code 125 = .ok (.newarray .int, 2)) ∧ (decode prog_10_method_1_code 127 = .ok (.putfield 59, 3)) ∧ (decode prog_10_method_1_code 130 = .ok (.aload_n 0, 1)) ∧ (decode prog_10_method_1_code 131 = .ok (.iconst 3, 1)) := by
  refine ⟨by decide +kernel, ?_⟩
  have h : List.drop 88 prog_10_method_1_code.data.toList = 0xb5 :: _ := rfl
  refine ⟨zq_k_u2 181 (fun z => .putfield z) 44 h rfl (zq_o_181 _) (by decide +kernel), ?_⟩
  replace h := zq_nx3 (q := 91) h rfl
  refine ⟨zq_k_n 42 h rfl (zq_o_42 _), ?_⟩
  replace h := zq_nx1 (q := 92) h rfl
  refine ⟨zq_k_n 6 h rfl (zq_o_6 _), ?_⟩
  replace h := zq_nx1 (q := 93) h rfl
  refine ⟨by decide +kernel, ?_⟩
  have h : List.drop 95 prog_10_method_1_code.data.toList = 0xb5 :: _ := rfl
  refine ⟨zq_k_u2 181 (fun z => .putfield z) 47 h rfl (zq_o_181 _) (by decide +kernel), ?_⟩
  replace h := zq_nx3 (q := 98) h rfl
  refine ⟨zq_k_n 42 h rfl (zq_o_42 _), ?_⟩
  replace h := zq_nx1 (q := 99) h rfl
  refine ⟨zq_k_s2 17 (fun z => .sipush z) 160 h rfl (zq_o_17 _) (by decide +kernel), ?_⟩
  replace h := zq_nx3 (q := 102) h rfl
  refine ⟨by decide +kernel, ?_⟩
  have h : List.drop 104 prog_10_method_1_code.data.toList = 0xb5 :: _ := rfl
  refine ⟨zq_k_u2 181 (fun z => .putfield z) 50 h rfl (zq_o_181 _) (by decide +kernel), ?_⟩
  replace h := zq_nx3 (q := 107) h rfl
  refine ⟨zq_k_n 42 h rfl (zq_o_42 _), ?_⟩
  replace h := zq_nx1 (q := 108) h rfl
  refine ⟨zq_k_s2 17 (fun z => .sipush z) 24576 h rfl (zq_o_17 _) (by decide +kernel), ?_⟩
  replace h := zq_nx3 (q := 111) h rfl
  refine ⟨by decide +kernel, ?_⟩
  have h : List.drop 113 prog_10_method_1_code.data.toList = 0xb5 :: _ := rfl
  refine ⟨zq_k_u2 181 (fun z => .putfield z) 53 h rfl (zq_o_181 _) (by decide +kernel), ?_⟩
  replace h := zq_nx3 (q := 116) h rfl
  refine ⟨zq_k_n 42 h rfl (zq_o_42 _), ?_⟩
  replace h := zq_nx1 (q := 117) h rfl
  refine ⟨zq_k_n 8 h rfl (zq_o_8 _), ?_⟩
  replace h := zq_nx1 (q := 118) h rfl
  refine ⟨by decide +kernel, ?_⟩
  have h : List.drop 120 prog_10_method_1_code.data.toList = 0xb5 :: _ := rfl
  refine ⟨zq_k_u2 181 (fun z => .putfield z) 56 h rfl (zq_o_181 _) (by decide +kernel), ?_⟩
  replace h := zq_nx3 (q := 123) h rfl
  refine ⟨zq_k_n 42 h rfl (zq_o_42 _), ?_⟩
  replace h := zq_nx1 (q := 124) h rfl
  refine ⟨zq_k_n 6 h rfl (zq_o_6 _), ?_⟩
  replace h := zq_nx1 (q := 125) h rfl
  refine ⟨by decide +kernel, ?_⟩
  have h : List.drop 127 prog_10_method_1_code.data.toList = 0xb5 :: _ := rfl
  refine ⟨zq_k_u2 181 (fun z => .putfield z) 59 h rfl (zq_o_181 _) (by decide +kernel), ?_⟩
  replace h := zq_nx3 (q := 130) h rfl
  refine ⟨zq_k_n 42 h rfl (zq_o_42 _), ?_⟩
  replace h := zq_nx1 (q := 131) h rfl
  exact zq_k_n 6 h rfl (zq_o_6 _)
set_option maxRecDepth 100000 in
theorem dd_M_new_132 : (decode prog_10_method_1_code 132 = .ok (.newarray .int, 2)) ∧ (decode prog_10_method_1_code 134 = .ok (.putfield 62, 3)) ∧ (decode prog_10_method_1_code 137 = .ok (.aload_n 0, 1)) ∧ (decode prog_10_method_1_code 138 = .ok (.bipush 66, 2)) ∧ (decode prog_10_method_1_code 140 = .ok (.newarray .int, 2)) ∧ (decode prog_10_method_1_code 142 = .ok (.putfield 65, 3)) ∧ (decode prog_10_method_1_code 145 = .ok (.aload_n 0, 1)) ∧ (decode prog_10_method_1_code 146 = .ok (.bipush 16, 2)) ∧ (decode prog_10_method_1_code 148 = .ok (.newarray .long, 2)) ∧ (decode prog_10_method_1_code 150 = .ok (.putfield 68, 3)) ∧ (decode prog_10_method_1_code 153 = .ok (.aload_n 0, 1)) ∧ (decode prog_10_method_1_code 154 = .ok (.sipush 216, 3)) ∧ (decode prog_10_method_1_code 157 = .ok (.newarray .long, 2)) ∧ (decode prog_10_method_1_code 159 = .ok (.putfield 72, 3)) ∧ (decode prog_10_method_1_code 162 = .ok (.aload_n 0, 1)) ∧ (decode prog_10_method_1_code 163 = .ok (.sipush 216, 3)) ∧ (decode prog_10_method_1_code 166 = .ok (.newarray .long, 2)) ∧ (decode prog_10_method_1_code 168 = .ok (.putfield 75, 3)) ∧ (decode prog_10_method_1_code 171 = .ok (.aload_n 0, 1)) ∧ (decode prog_10_method_1_code 172 = .ok (.iconst 4, 1)) ∧ (decode prog_10_method_1_code 173 = .ok (.newarray .int, 2)) ∧ (decode prog_10_method_1_code 175 = .ok (.putfield 78, 3)) ∧ (decode prog_10_method_1_code 178 = .ok (.aload_n 0, 1)) ∧ (decode prog_10_method_1_code 179 = .ok (.iconst 4, 1)) := by
  refine ⟨by decide +kernel, ?_⟩
  have h : List.drop 134 prog_10_method_1_code.data.toList = 0xb5 :: _ := rfl
  refine ⟨zq_k_u2 181 (fun z => .putfield z) 62 h rfl (zq_o_181 _) (by decide +kernel), ?_⟩
  replace h := zq_nx3 (q := 137) h rfl
  refine ⟨zq_k_n 42 h rfl (zq_o_42 _), ?_⟩
  replace h := zq_nx1 (q := 138) h rfl
  refine ⟨zq_k_s1 16 (fun z => .bipush z) 66 h rfl (zq_o_16 _) (by decide +kernel), ?_⟩
  replace h := zq_nx2 (q := 140) h rfl
  refine ⟨by decide +kernel, ?_⟩
  have h : List.drop 142 prog_10_method_1_code.data.toList = 0xb5 :: _ := rfl
  refine ⟨zq_k_u2 181 (fun z => .putfield z) 65 h rfl (zq_o_181 _) (by decide +kernel), ?_⟩
  replace h := zq_nx3 (q := 145) h rfl
  refine ⟨zq_k_n 42 h rfl (zq_o_42 _), ?_⟩
  replace h := zq_nx1 (q := 146) h rfl
  refine ⟨zq_k_s1 16 (fun z => .bipush z) 16 h rfl (zq_o_16 _) (by decide +kernel), ?_⟩
  replace h := zq_nx2 (q := 148) h rfl
  refine ⟨by decide +kernel, ?_⟩
  have h : List.drop 150 prog_10_method_1_code.data.toList = 0xb5 :: _ := rfl
  refine ⟨zq_k_u2 181 (fun z => .putfield z) 68 h rfl (zq_o_181 _) (by decide +kernel), ?_⟩
  replace h := zq_nx3 (q := 153) h rfl
  refine ⟨zq_k_n 42 h rfl (zq_o_42 _), ?_⟩
  replace h := zq_nx1 (q := 154) h rfl
  refine ⟨zq_k_s2 17 (fun z => .sipush z) 216 h rfl (zq_o_17 _) (by decide +kernel), ?_⟩
  replace h := zq_nx3 (q := 157) h rfl
  refine ⟨by decide +kernel, ?_⟩
  have h : List.drop 159 prog_10_method_1_code.data.toList = 0xb5 :: _ := rfl
  refine ⟨zq_k_u2 181 (fun z => .putfield z) 72 h rfl (zq_o_181 _) (by decide +kernel), ?_⟩
  replace h := zq_nx3 (q := 162) h rfl
  refine ⟨zq_k_n 42 h rfl (zq_o_42 _), ?_⟩
  replace h := zq_nx1 (q := 163) h rfl
  refine ⟨zq_k_s2 17 (fun z => .sipush z) 216 h rfl (zq_o_17 _) (by decide +kernel), ?_⟩
  replace h := zq_nx3 (q := 166) h rfl
  refine ⟨by decide +kernel, ?_⟩
  have h : List.drop 168 prog_10_method_1_code.data.toList = 0xb5 :: _ := rfl
  refine ⟨zq_k_u2 181 (fun z => .putfield z) 75 h rfl (zq_o_181 _) (by decide +kernel), ?_⟩
  replace h := zq_nx3 (q := 171) h rfl
  refine ⟨zq_k_n 42 h rfl (zq_o_42 _), ?_⟩
  replace h := zq_nx1 (q := 172) h rfl
  refine ⟨zq_k_n 7 h rfl (zq_o_7 _), ?_⟩
  replace h := zq_nx1 (q := 173) h rfl
  refine ⟨by decide +kernel, ?_⟩
  have h : List.drop 175 prog_10_method_1_code.data.toList = 0xb5 :: _ := rfl
  refine ⟨zq_k_u2 181 (fun z => .putfield z) 78 h rfl (zq_o_181 _) (by decide +kernel), ?_⟩
  replace h := zq_nx3 (q := 178) h rfl
  refine ⟨zq_k_n 42 h rfl (zq_o_42 _), ?_⟩
  replace h := zq_nx1 (q := 179) h rfl
  exact zq_k_n 7 h rfl (zq_o_7 _)
set_option maxRecDepth 100000 in
theorem dd_M_new_180 : (decode prog_10_method_1_code 180 = .ok (.newarray .int, 2)) ∧ (decode prog_10_method_1_code 182 = .ok (.putfield 81, 3)) ∧ (decode prog_10_method_1_code 185 = .ok (.aload_n 0, 1)) ∧ (decode prog_10_method_1_code 186 = .ok (.sipush 160, 3)) ∧ (decode prog_10_method_1_code 189 = .ok (.newarray .int, 2)) ∧ (decode prog_10_method_1_code 191 = .ok (.putfield 84, 3)) ∧ (decode prog_10_method_1_code 194 = .ok (.iconst 0, 1)) ∧ (decode prog_10_method_1_code 195 = .ok (.istore_n 1, 1)) ∧ (decode prog_10_method_1_code 196 = .ok (.iload_n 1, 1)) ∧ (decode prog_10_method_1_code 197 = .ok (.iconst 4, 1)) ∧ (decode prog_10_method_1_code 198 = .ok (.if_icmp .ge 17, 3)) ∧ (decode prog_10_method_1_code 201 = .ok (.aload_n 0, 1)) ∧ (decode prog_10_method_1_code 202 = .ok (.getfield 78, 3)) ∧ (decode prog_10_method_1_code 205 = .ok (.iload_n 1, 1)) ∧ (decode prog_10_method_1_code 206 = .ok (.bipush (-4), 2)) ∧ (decode prog_10_method_1_code 208 = .ok (.iastore, 1)) ∧ (decode prog_10_method_1_code 209 = .ok (.iinc 1 1, 3)) ∧ (decode prog_10_method_1_code 212 = .ok (.goto (-16), 3)) ∧ (decode prog_10_method_1_code 215 = .ok (.aload_n 0, 1)) ∧ (decode prog_10_method_1_code 216 = .ok (.invokevirtual 87, 3)) ∧ (decode prog_10_method_1_code 219 = .ok (.aload_n 0, 1)) ∧ (decode prog_10_method_1_code 220 = .ok (.invokevirtual 90, 3)) ∧ (decode prog_10_method_1_code 223 = .ok (.return_, 1)) := by
  refine ⟨by decide +kernel, ?_⟩
  have h : List.drop 182 prog_10_method_1_code.data.toList = 0xb5 :: _ := rfl
  refine ⟨zq_k_u2 181 (fun z => .putfield z) 81 h rfl (zq_o_181 _) (by decide +kernel), ?_⟩
  replace h := zq_nx3 (q := 185) h rfl
  refine ⟨zq_k_n 42 h rfl (zq_o_42 _), ?_⟩
  replace h := zq_nx1 (q := 186) h rfl
  refine ⟨zq_k_s2 17 (fun z => .sipush z) 160 h rfl (zq_o_17 _) (by decide +kernel), ?_⟩
  replace h := zq_nx3 (q := 189) h rfl
  refine ⟨by decide +kernel, ?_⟩
  have h : List.drop 191 prog_10_method_1_code.data.toList = 0xb5 :: _ := rfl
  refine ⟨zq_k_u2 181 (fun z => .putfield z) 84 h rfl (zq_o_181 _) (by decide +kernel), ?_⟩
  replace h := zq_nx3 (q := 194) h rfl
  refine ⟨zq_k_n 3 h rfl (zq_o_3 _), ?_⟩
  replace h := zq_nx1 (q := 195) h rfl
  refine ⟨zq_k_n 60 h rfl (zq_o_60 _), ?_⟩
  replace h := zq_nx1 (q := 196) h rfl
  refine ⟨zq_k_n 27 h rfl (zq_o_27 _), ?_⟩
  replace h := zq_nx1 (q := 197) h rfl
  refine ⟨zq_k_n 7 h rfl (zq_o_7 _), ?_⟩
  replace h := zq_nx1 (q := 198) h rfl
  refine ⟨zq_k_s2 162 (fun z => .if_icmp .ge z) 17 h rfl (zq_o_162 _) (by decide +kernel), ?_⟩
  replace h := zq_nx3 (q := 201) h rfl
  refine ⟨zq_k_n 42 h rfl (zq_o_42 _), ?_⟩
  replace h := zq_nx1 (q := 202) h rfl
  refine ⟨zq_k_u2 180 (fun z => .getfield z) 78 h rfl (zq_o_180 _) (by decide +kernel), ?_⟩
  replace h := zq_nx3 (q := 205) h rfl
  refine ⟨zq_k_n 27 h rfl (zq_o_27 _), ?_⟩
  replace h := zq_nx1 (q := 206) h rfl
  refine ⟨zq_k_s1 16 (fun z => .bipush z) (-4) h rfl (zq_o_16 _) (by decide +kernel), ?_⟩
  replace h := zq_nx2 (q := 208) h rfl
  refine ⟨zq_k_n 79 h rfl (zq_o_79 _), ?_⟩
  replace h := zq_nx1 (q := 209) h rfl
  refine ⟨zq_k_iinc 1 1 h rfl (zq_o_132 _) (by decide +kernel) (by decide +kernel), ?_⟩
  replace h := zq_nx3 (q := 212) h rfl
  refine ⟨zq_k_s2 167 (fun z => .goto z) (-16) h rfl (zq_o_167 _) (by decide +kernel), ?_⟩
  replace h := zq_nx3 (q := 215) h rfl
  refine ⟨zq_k_n 42 h rfl (zq_o_42 _), ?_⟩
  replace h := zq_nx1 (q := 216) h rfl
  refine ⟨zq_k_u2 182 (fun z => .invokevirtual z) 87 h rfl (zq_o_182 _) (by decide +kernel), ?_⟩
  replace h := zq_nx3 (q := 219) h rfl
  refine ⟨zq_k_n 42 h rfl (zq_o_42 _), ?_⟩
  replace h := zq_nx1 (q := 220) h rfl
  refine ⟨zq_k_u2 182 (fun z => .invokevirtual z) 90 h rfl (zq_o_182 _) (by decide +kernel), ?_⟩
  replace h := zq_nx3 (q := 223) h rfl
  exact zq_k_n 177 h rfl (zq_o_177 _)
def f_M_new_196b (rec196 : Nat → Int32 → mH → Option mH) (b0 : Nat) (b1 : Int32) (h : mH) : Option mH :=
  if (4 : Int32) ≤ b1 then
    bd1 (kC h b0 8) fun _ =>
    bd1 (f_M_firstDraft b0 h) fun h203 =>
    bd1 (kC h203 b0 8) fun _ =>
    bd1 (f_M_keepDraft b0 h203) fun h207 =>
    some h207
  else
    bd1 (gR h b0 8 35) fun x209 =>
    bd1 (sI h 0 x209 b1 ((-4) : Int32)) fun h211 =>
    rec196 b0 (b1 + (1 : Int32)) h211
set_option maxRecDepth 20000 in
theorem t_M_new_196b {sc : Nat × (Nat → Int32)} (rec196 : Nat → Int32 → mH → Option mH) (hrec196 : ∀ (b0 : Nat) (b1 : Int32) (h : mH) (h' : mH), rec196 b0 b1 h = some h' → G sc y_M_new prog_10_method_1_code 2 none 1 21 196 [(0, .ref b0), (1, .int b1)] [] h none h') (b0 : Nat) (b1 : Int32) (h : mH) (h' : mH) (hf : f_M_new_196b rec196 b0 b1 h = some h') : G sc y_M_new prog_10_method_1_code 2 none 1 21 196 [(0, .ref b0), (1, .int b1)] [] h none h' := by
  unfold f_M_new_196b at hf
  refine g_iload_n (pc := 196) 1 dd_M_new_180.2.2.2.2.2.2.2.2.1 rfl rfl ?_
  refine g_iconst (pc := 197) (4 : Int32) dd_M_new_180.2.2.2.2.2.2.2.2.2.1 (by decide) ?_
  refine g_icmpge (pc := 198) 215 dd_M_new_180.2.2.2.2.2.2.2.2.2.2.1 (by decide) (fun c213 => ?_) (fun c213 => ?_)
  · replace hf := (if_pos c213).symm.trans hf
    refine g_aload_n (pc := 215) 0 dd_M_new_180.2.2.2.2.2.2.2.2.2.2.2.2.2.2.2.2.2.2.1 rfl rfl ?_
    obtain ⟨u202, e201, hf⟩ := bd1_e hf
    obtain ⟨h203, e204, hf⟩ := bd1_e hf
    refine g_callV (pc := 216) (ci := 8) [] (site_of si_M_firstDraft (by decide) (by decide)) wd_930 wd_932 wp_30 dd_M_new_180.2.2.2.2.2.2.2.2.2.2.2.2.2.2.2.2.2.2.2.1 rfl e201 (Nat.le_of_ble_eq_true rfl) (fun z => absurd z si_na_M_firstDraft) (fun z => absurd z si_na_M_firstDraft) (fun z => absurd z si_na_M_firstDraft) (c_M_firstDraft e204) rfl ?_
    refine g_st [] rfl ?_
    refine g_aload_n (pc := 219) 0 dd_M_new_180.2.2.2.2.2.2.2.2.2.2.2.2.2.2.2.2.2.2.2.2.1 rfl rfl ?_
    obtain ⟨u206, e205, hf⟩ := bd1_e hf
    obtain ⟨h207, e208, hf⟩ := bd1_e hf
    refine g_callV (pc := 220) (ci := 8) [] (site_of si_M_keepDraft (by decide) (by decide)) wd_934 wd_936 wp_31 dd_M_new_180.2.2.2.2.2.2.2.2.2.2.2.2.2.2.2.2.2.2.2.2.2.1 rfl e205 (Nat.le_of_ble_eq_true rfl) (fun z => absurd z si_na_M_keepDraft) (fun z => absurd z si_na_M_keepDraft) (fun z => absurd z si_na_M_keepDraft) (c_M_keepDraft e208) rfl ?_
    refine g_st [] rfl ?_
    obtain rfl := ret1 hf
    exact g_vret (pc := 223) rfl dd_M_new_180.2.2.2.2.2.2.2.2.2.2.2.2.2.2.2.2.2.2.2.2.2.2
  · replace hf := (if_neg c213).symm.trans hf
    refine g_aload_n (pc := 201) 0 dd_M_new_180.2.2.2.2.2.2.2.2.2.2.2.1 rfl rfl ?_
    obtain ⟨x209, e210, hf⟩ := bd1_e hf
    refine g_get (pc := 202) (ci := 8) (kk := 35) dd_M_new_180.2.2.2.2.2.2.2.2.2.2.2.2.1 rfl in_M (by decide) wd_973 (gR_spec e210) ?_
    refine g_iload_n (pc := 205) 1 dd_M_new_180.2.2.2.2.2.2.2.2.2.2.2.2.2.1 rfl rfl ?_
    refine g_bipush (pc := 206) ((-4) : Int32) dd_M_new_180.2.2.2.2.2.2.2.2.2.2.2.2.2.2.1 (by decide) ?_
    obtain ⟨h211, e212, hf⟩ := bd1_e hf
    refine g_iast (pc := 208) dd_M_new_180.2.2.2.2.2.2.2.2.2.2.2.2.2.2.2.1 e212 ?_
    refine g_iinc (pc := 209) 1 (b1 + (1 : Int32)) [(1, .int (b1 + (1 : Int32))), (0, .ref b0)] dd_M_new_180.2.2.2.2.2.2.2.2.2.2.2.2.2.2.2.2.1 rfl rfl (Nat.le_of_ble_eq_true rfl) rfl ?_
    refine g_goto (pc := 212) 196 dd_M_new_180.2.2.2.2.2.2.2.2.2.2.2.2.2.2.2.2.2.1 (by decide) ?_
    refine g_lv [1, 0] rfl ?_
    exact hrec196 _ _ _ _  hf
def f_M_new_196  : Nat → Nat → Int32 → mH → Option mH
  | 0 => fun _ _ _ => none
  | n + 1 => f_M_new_196b  (f_M_new_196  n)
theorem t_M_new_196 {sc : Nat × (Nat → Int32)}  : ∀ (n : Nat) (b0 : Nat) (b1 : Int32) (h : mH) (h' : mH) (hf : f_M_new_196  n b0 b1 h = some h'), G sc y_M_new prog_10_method_1_code 2 none 1 21 196 [(0, .ref b0), (1, .int b1)] [] h none h'
  | 0, _, _, _, _, hf => by cases hf
  | n + 1, _, _, _, _, hf => t_M_new_196b  (f_M_new_196  n) (t_M_new_196  n) _ _ _ _ hf
def f_M_new_0  (a0 : Nat) (h : mH) : Option mH :=
  grd (¬ a0 = h.1) <|
  bd1 (mkn h 198 (.inl (0, (198, .inl (fun _ => 0))))) fun h2 =>
  grd (h.1 < h2.1) <|
  bd1 (pV h2 a0 8 0 (.ref h.1)) fun h6 =>
  grd (¬ a0 = h6.1) <|
  bd1 (mkn h6 2 (.inl (2, (2, .inl (fun _ => 0))))) fun h10 =>
  grd (h6.1 < h10.1) <|
  bd1 (pV h10 a0 8 1 (.ref h6.1)) fun h14 =>
  grd (¬ a0 = h14.1) <|
  bd1 (mkn h14 5 (.inl (0, (5, .inl (fun _ => 0))))) fun h18 =>
  grd (h14.1 < h18.1) <|
  bd1 (pV h18 a0 8 4 (.ref h14.1)) fun h22 =>
  grd (¬ a0 = h22.1) <|
  bd1 (mkn h22 5 (.inl (0, (5, .inl (fun _ => 0))))) fun h26 =>
  grd (h22.1 < h26.1) <|
  bd1 (pV h26 a0 8 5 (.ref h22.1)) fun h30 =>
  grd (¬ a0 = h30.1) <|
  bd1 (mkn h30 5 (.inl (0, (5, .inl (fun _ => 0))))) fun h34 =>
  grd (h30.1 < h34.1) <|
  bd1 (pV h34 a0 8 6 (.ref h30.1)) fun h38 =>
  grd (¬ a0 = h38.1) <|
  bd1 (mkn h38 3 (.inl (0, (3, .inl (fun _ => 0))))) fun h42 =>
  grd (h38.1 < h42.1) <|
  bd1 (pV h42 a0 8 7 (.ref h38.1)) fun h46 =>
  grd (¬ a0 = h46.1) <|
  bd1 (mkn h46 3 (.inl (0, (3, .inl (fun _ => 0))))) fun h50 =>
  grd (h46.1 < h50.1) <|
  bd1 (pV h50 a0 8 8 (.ref h46.1)) fun h54 =>
  grd (¬ a0 = h54.1) <|
  bd1 (mkn h54 66 (.inl (0, (66, .inl (fun _ => 0))))) fun h58 =>
  grd (h54.1 < h58.1) <|
  bd1 (pV h58 a0 8 9 (.ref h54.1)) fun h62 =>
  grd (¬ a0 = h62.1) <|
  bd1 (mkn h62 5 (.inl (0, (5, .inl (fun _ => 0))))) fun h66 =>
  grd (h62.1 < h66.1) <|
  bd1 (pV h66 a0 8 12 (.ref h62.1)) fun h70 =>
  grd (¬ a0 = h70.1) <|
  bd1 (mkn h70 5 (.inl (0, (5, .inl (fun _ => 0))))) fun h74 =>
  grd (h70.1 < h74.1) <|
  bd1 (pV h74 a0 8 13 (.ref h70.1)) fun h78 =>
  grd (¬ a0 = h78.1) <|
  bd1 (mkn h78 5 (.inl (0, (5, .inl (fun _ => 0))))) fun h82 =>
  grd (h78.1 < h82.1) <|
  bd1 (pV h82 a0 8 14 (.ref h78.1)) fun h86 =>
  grd (¬ a0 = h86.1) <|
  bd1 (mkn h86 3 (.inl (0, (3, .inl (fun _ => 0))))) fun h90 =>
  grd (h86.1 < h90.1) <|
  bd1 (pV h90 a0 8 15 (.ref h86.1)) fun h94 =>
  grd (¬ a0 = h94.1) <|
  bd1 (mkn h94 3 (.inl (0, (3, .inl (fun _ => 0))))) fun h98 =>
  grd (h94.1 < h98.1) <|
  bd1 (pV h98 a0 8 16 (.ref h94.1)) fun h102 =>
  grd (¬ a0 = h102.1) <|
  bd1 (mkn h102 160 (.inl (0, (160, .inl (fun _ => 0))))) fun h106 =>
  grd (h102.1 < h106.1) <|
  bd1 (pV h106 a0 8 19 (.ref h102.1)) fun h110 =>
  grd (¬ a0 = h110.1) <|
  bd1 (mkn h110 24576 (.inl (0, (24576, .inl (fun _ => 0))))) fun h114 =>
  grd (h110.1 < h114.1) <|
  bd1 (pV h114 a0 8 27 (.ref h110.1)) fun h118 =>
  grd (¬ a0 = h118.1) <|
  bd1 (mkn h118 5 (.inl (0, (5, .inl (fun _ => 0))))) fun h122 =>
  grd (h118.1 < h122.1) <|
  bd1 (pV h122 a0 8 28 (.ref h118.1)) fun h126 =>
  grd (¬ a0 = h126.1) <|
  bd1 (mkn h126 3 (.inl (0, (3, .inl (fun _ => 0))))) fun h130 =>
  grd (h126.1 < h130.1) <|
  bd1 (pV h130 a0 8 29 (.ref h126.1)) fun h134 =>
  grd (¬ a0 = h134.1) <|
  bd1 (mkn h134 3 (.inl (0, (3, .inl (fun _ => 0))))) fun h138 =>
  grd (h134.1 < h138.1) <|
  bd1 (pV h138 a0 8 30 (.ref h134.1)) fun h142 =>
  grd (¬ a0 = h142.1) <|
  bd1 (mkn h142 66 (.inl (0, (66, .inl (fun _ => 0))))) fun h146 =>
  grd (h142.1 < h146.1) <|
  bd1 (pV h146 a0 8 31 (.ref h142.1)) fun h150 =>
  grd (¬ a0 = h150.1) <|
  bd1 (mkn h150 16 (.inl (3, (16, .inr (.inl (fun _ => 0)))))) fun h154 =>
  grd (h150.1 < h154.1) <|
  bd1 (pV h154 a0 8 32 (.ref h150.1)) fun h158 =>
  grd (¬ a0 = h158.1) <|
  bd1 (mkn h158 216 (.inl (3, (216, .inr (.inl (fun _ => 0)))))) fun h162 =>
  grd (h158.1 < h162.1) <|
  bd1 (pV h162 a0 8 33 (.ref h158.1)) fun h166 =>
  grd (¬ a0 = h166.1) <|
  bd1 (mkn h166 216 (.inl (3, (216, .inr (.inl (fun _ => 0)))))) fun h170 =>
  grd (h166.1 < h170.1) <|
  bd1 (pV h170 a0 8 34 (.ref h166.1)) fun h174 =>
  grd (¬ a0 = h174.1) <|
  bd1 (mkn h174 4 (.inl (0, (4, .inl (fun _ => 0))))) fun h178 =>
  grd (h174.1 < h178.1) <|
  bd1 (pV h178 a0 8 35 (.ref h174.1)) fun h182 =>
  grd (¬ a0 = h182.1) <|
  bd1 (mkn h182 4 (.inl (0, (4, .inl (fun _ => 0))))) fun h186 =>
  grd (h182.1 < h186.1) <|
  bd1 (pV h186 a0 8 36 (.ref h182.1)) fun h190 =>
  grd (¬ a0 = h190.1) <|
  bd1 (mkn h190 160 (.inl (0, (160, .inl (fun _ => 0))))) fun h194 =>
  grd (h190.1 < h194.1) <|
  bd1 (pV h194 a0 8 37 (.ref h190.1)) fun h198 =>
  f_M_new_196  FU a0 (0 : Int32) h198
set_option maxRecDepth 20000 in
theorem t_M_new_0 {sc : Nat × (Nat → Int32)}  (a0 : Nat) (h : mH) (h' : mH) (hf : f_M_new_0  a0 h = some h') : G sc y_M_new prog_10_method_1_code 2 none 1 21 0 [(0, .ref a0)] [] h none h' := by
  unfold f_M_new_0 at hf
  refine g_aload_n (pc := 0) 0 dd_M_new_0.1 rfl rfl ?_
  refine g_objInit (pc := 1) dd_M_new_0.2.1 wd_929 wd_24 wd_25 (by decide) (Nat.le_of_ble_eq_true rfl) ?_
  refine g_aload_n (pc := 4) 0 dd_M_new_0.2.2.1 rfl rfl ?_
  refine g_sipush (pc := 5) (198 : Int32) dd_M_new_0.2.2.2.1 (by decide) ?_
  obtain ⟨g1, hf⟩ := grd_e hf
  obtain ⟨h2, e3, hf⟩ := bd1_e hf
  obtain ⟨g4, e5⟩ := mkn_e e3
  refine g_newa (pc := 8) rfl 0 198 .int (198, .inl (fun _ => 0)) wd_92 rfl (fun _ => rfl) (fun _ _ _ a b => Option.some.inj (a.symm.trans b)) (fun _ => rfl) (fun _ => rfl) (fun _ z => absurd z id) (by decide) (by decide) (by decide) dd_M_new_0.2.2.2.2.1 g4 (okl_cons (okv_r (by omega)) (okl_nil)) (oks_cons (okv_r (by omega)) (oks_nil)) ?_
  rw [← e5]
  have h2_n : h2.1 = h.1 + 1 := by rw [e5]; rfl
  obtain ⟨g8, hf⟩ := grd_e hf
  obtain ⟨h6, e7, hf⟩ := bd1_e hf
  refine g_putF (pc := 10) (ci := 8) (kk := 0) ty_M tyok_M nm_M dd_M_new_0.2.2.2.2.2.1 rfl in_M (by decide) wd_938 rfl rfl rfl (fun _ => rfl) (fun _ => rfl) (fun _ z => by cases z; omega) e7 ?_
  refine g_aload_n (pc := 13) 0 dd_M_new_0.2.2.2.2.2.2.1 rfl rfl ?_
  refine g_iconst (pc := 14) (2 : Int32) dd_M_new_0.2.2.2.2.2.2.2.1 (by decide) ?_
  obtain ⟨g9, hf⟩ := grd_e hf
  obtain ⟨h10, e11, hf⟩ := bd1_e hf
  obtain ⟨g12, e13⟩ := mkn_e e11
  refine g_newa (pc := 15) rfl 2 2 .boolean (2, .inl (fun _ => 0)) wd_229 rfl (fun _ => rfl) (fun _ _ _ a b => Option.some.inj (a.symm.trans b)) (fun _ => rfl) (fun _ => rfl) (fun _ z => absurd z id) (by decide) (by decide) (by decide) dd_M_new_0.2.2.2.2.2.2.2.2.1 g12 (okl_cons (okv_r (by omega)) (okl_nil)) (oks_cons (okv_r (by omega)) (oks_nil)) ?_
  rw [← e13]
  have h10_n : h10.1 = h6.1 + 1 := by rw [e13]; rfl
  obtain ⟨g16, hf⟩ := grd_e hf
  obtain ⟨h14, e15, hf⟩ := bd1_e hf
  refine g_putF (pc := 17) (ci := 8) (kk := 1) ty_M tyok_M nm_M dd_M_new_0.2.2.2.2.2.2.2.2.2.1 rfl in_M (by decide) wd_939 rfl rfl rfl (fun _ => rfl) (fun _ => rfl) (fun _ z => by cases z; omega) e15 ?_
  refine g_aload_n (pc := 20) 0 dd_M_new_0.2.2.2.2.2.2.2.2.2.2.1 rfl rfl ?_
  refine g_iconst (pc := 21) (5 : Int32) dd_M_new_0.2.2.2.2.2.2.2.2.2.2.2.1 (by decide) ?_
  obtain ⟨g17, hf⟩ := grd_e hf
  obtain ⟨h18, e19, hf⟩ := bd1_e hf
  obtain ⟨g20, e21⟩ := mkn_e e19
  refine g_newa (pc := 22) rfl 0 5 .int (5, .inl (fun _ => 0)) wd_92 rfl (fun _ => rfl) (fun _ _ _ a b => Option.some.inj (a.symm.trans b)) (fun _ => rfl) (fun _ => rfl) (fun _ z => absurd z id) (by decide) (by decide) (by decide) dd_M_new_0.2.2.2.2.2.2.2.2.2.2.2.2.1 g20 (okl_cons (okv_r (by omega)) (okl_nil)) (oks_cons (okv_r (by omega)) (oks_nil)) ?_
  rw [← e21]
  have h18_n : h18.1 = h14.1 + 1 := by rw [e21]; rfl
  obtain ⟨g24, hf⟩ := grd_e hf
  obtain ⟨h22, e23, hf⟩ := bd1_e hf
  refine g_putF (pc := 24) (ci := 8) (kk := 4) ty_M tyok_M nm_M dd_M_new_0.2.2.2.2.2.2.2.2.2.2.2.2.2.1 rfl in_M (by decide) wd_942 rfl rfl rfl (fun _ => rfl) (fun _ => rfl) (fun _ z => by cases z; omega) e23 ?_
  refine g_aload_n (pc := 27) 0 dd_M_new_0.2.2.2.2.2.2.2.2.2.2.2.2.2.2.1 rfl rfl ?_
  refine g_iconst (pc := 28) (5 : Int32) dd_M_new_0.2.2.2.2.2.2.2.2.2.2.2.2.2.2.2.1 (by decide) ?_
  obtain ⟨g25, hf⟩ := grd_e hf
  obtain ⟨h26, e27, hf⟩ := bd1_e hf
  obtain ⟨g28, e29⟩ := mkn_e e27
  refine g_newa (pc := 29) rfl 0 5 .int (5, .inl (fun _ => 0)) wd_92 rfl (fun _ => rfl) (fun _ _ _ a b => Option.some.inj (a.symm.trans b)) (fun _ => rfl) (fun _ => rfl) (fun _ z => absurd z id) (by decide) (by decide) (by decide) dd_M_new_0.2.2.2.2.2.2.2.2.2.2.2.2.2.2.2.2.1 g28 (okl_cons (okv_r (by omega)) (okl_nil)) (oks_cons (okv_r (by omega)) (oks_nil)) ?_
  rw [← e29]
  have h26_n : h26.1 = h22.1 + 1 := by rw [e29]; rfl
  obtain ⟨g32, hf⟩ := grd_e hf
  obtain ⟨h30, e31, hf⟩ := bd1_e hf
  refine g_putF (pc := 31) (ci := 8) (kk := 5) ty_M tyok_M nm_M dd_M_new_0.2.2.2.2.2.2.2.2.2.2.2.2.2.2.2.2.2.1 rfl in_M (by decide) wd_943 rfl rfl rfl (fun _ => rfl) (fun _ => rfl) (fun _ z => by cases z; omega) e31 ?_
  refine g_aload_n (pc := 34) 0 dd_M_new_0.2.2.2.2.2.2.2.2.2.2.2.2.2.2.2.2.2.2.1 rfl rfl ?_
  refine g_iconst (pc := 35) (5 : Int32) dd_M_new_0.2.2.2.2.2.2.2.2.2.2.2.2.2.2.2.2.2.2.2.1 (by decide) ?_
  obtain ⟨g33, hf⟩ := grd_e hf
  obtain ⟨h34, e35, hf⟩ := bd1_e hf
  obtain ⟨g36, e37⟩ := mkn_e e35
  refine g_newa (pc := 36) rfl 0 5 .int (5, .inl (fun _ => 0)) wd_92 rfl (fun _ => rfl) (fun _ _ _ a b => Option.some.inj (a.symm.trans b)) (fun _ => rfl) (fun _ => rfl) (fun _ z => absurd z id) (by decide) (by decide) (by decide) dd_M_new_0.2.2.2.2.2.2.2.2.2.2.2.2.2.2.2.2.2.2.2.2.1 g36 (okl_cons (okv_r (by omega)) (okl_nil)) (oks_cons (okv_r (by omega)) (oks_nil)) ?_
  rw [← e37]
  have h34_n : h34.1 = h30.1 + 1 := by rw [e37]; rfl
  obtain ⟨g40, hf⟩ := grd_e hf
  obtain ⟨h38, e39, hf⟩ := bd1_e hf
  refine g_putF (pc := 38) (ci := 8) (kk := 6) ty_M tyok_M nm_M dd_M_new_0.2.2.2.2.2.2.2.2.2.2.2.2.2.2.2.2.2.2.2.2.2.1 rfl in_M (by decide) wd_944 rfl rfl rfl (fun _ => rfl) (fun _ => rfl) (fun _ z => by cases z; omega) e39 ?_
  refine g_aload_n (pc := 41) 0 dd_M_new_0.2.2.2.2.2.2.2.2.2.2.2.2.2.2.2.2.2.2.2.2.2.2.1 rfl rfl ?_
  refine g_iconst (pc := 42) (3 : Int32) dd_M_new_0.2.2.2.2.2.2.2.2.2.2.2.2.2.2.2.2.2.2.2.2.2.2.2 (by decide) ?_
  obtain ⟨g41, hf⟩ := grd_e hf
  obtain ⟨h42, e43, hf⟩ := bd1_e hf
  obtain ⟨g44, e45⟩ := mkn_e e43
  refine g_newa (pc := 43) rfl 0 3 .int (3, .inl (fun _ => 0)) wd_92 rfl (fun _ => rfl) (fun _ _ _ a b => Option.some.inj (a.symm.trans b)) (fun _ => rfl) (fun _ => rfl) (fun _ z => absurd z id) (by decide) (by decide) (by decide) dd_M_new_43.1 g44 (okl_cons (okv_r (by omega)) (okl_nil)) (oks_cons (okv_r (by omega)) (oks_nil)) ?_
  rw [← e45]
  have h42_n : h42.1 = h38.1 + 1 := by rw [e45]; rfl
  obtain ⟨g48, hf⟩ := grd_e hf
  obtain ⟨h46, e47, hf⟩ := bd1_e hf
  refine g_putF (pc := 45) (ci := 8) (kk := 7) ty_M tyok_M nm_M dd_M_new_43.2.1 rfl in_M (by decide) wd_945 rfl rfl rfl (fun _ => rfl) (fun _ => rfl) (fun _ z => by cases z; omega) e47 ?_
  refine g_aload_n (pc := 48) 0 dd_M_new_43.2.2.1 rfl rfl ?_
  refine g_iconst (pc := 49) (3 : Int32) dd_M_new_43.2.2.2.1 (by decide) ?_
  obtain ⟨g49, hf⟩ := grd_e hf
  obtain ⟨h50, e51, hf⟩ := bd1_e hf
  obtain ⟨g52, e53⟩ := mkn_e e51
  refine g_newa (pc := 50) rfl 0 3 .int (3, .inl (fun _ => 0)) wd_92 rfl (fun _ => rfl) (fun _ _ _ a b => Option.some.inj (a.symm.trans b)) (fun _ => rfl) (fun _ => rfl) (fun _ z => absurd z id) (by decide) (by decide) (by decide) dd_M_new_43.2.2.2.2.1 g52 (okl_cons (okv_r (by omega)) (okl_nil)) (oks_cons (okv_r (by omega)) (oks_nil)) ?_
  rw [← e53]
  have h50_n : h50.1 = h46.1 + 1 := by rw [e53]; rfl
  obtain ⟨g56, hf⟩ := grd_e hf
  obtain ⟨h54, e55, hf⟩ := bd1_e hf
  refine g_putF (pc := 52) (ci := 8) (kk := 8) ty_M tyok_M nm_M dd_M_new_43.2.2.2.2.2.1 rfl in_M (by decide) wd_946 rfl rfl rfl (fun _ => rfl) (fun _ => rfl) (fun _ z => by cases z; omega) e55 ?_
  refine g_aload_n (pc := 55) 0 dd_M_new_43.2.2.2.2.2.2.1 rfl rfl ?_
  refine g_bipush (pc := 56) (66 : Int32) dd_M_new_43.2.2.2.2.2.2.2.1 (by decide) ?_
  obtain ⟨g57, hf⟩ := grd_e hf
  obtain ⟨h58, e59, hf⟩ := bd1_e hf
  obtain ⟨g60, e61⟩ := mkn_e e59
  refine g_newa (pc := 58) rfl 0 66 .int (66, .inl (fun _ => 0)) wd_92 rfl (fun _ => rfl) (fun _ _ _ a b => Option.some.inj (a.symm.trans b)) (fun _ => rfl) (fun _ => rfl) (fun _ z => absurd z id) (by decide) (by decide) (by decide) dd_M_new_43.2.2.2.2.2.2.2.2.1 g60 (okl_cons (okv_r (by omega)) (okl_nil)) (oks_cons (okv_r (by omega)) (oks_nil)) ?_
  rw [← e61]
  have h58_n : h58.1 = h54.1 + 1 := by rw [e61]; rfl
  obtain ⟨g64, hf⟩ := grd_e hf
  obtain ⟨h62, e63, hf⟩ := bd1_e hf
  refine g_putF (pc := 60) (ci := 8) (kk := 9) ty_M tyok_M nm_M dd_M_new_43.2.2.2.2.2.2.2.2.2.1 rfl in_M (by decide) wd_947 rfl rfl rfl (fun _ => rfl) (fun _ => rfl) (fun _ z => by cases z; omega) e63 ?_
  refine g_aload_n (pc := 63) 0 dd_M_new_43.2.2.2.2.2.2.2.2.2.2.1 rfl rfl ?_
  refine g_iconst (pc := 64) (5 : Int32) dd_M_new_43.2.2.2.2.2.2.2.2.2.2.2.1 (by decide) ?_
  obtain ⟨g65, hf⟩ := grd_e hf
  obtain ⟨h66, e67, hf⟩ := bd1_e hf
  obtain ⟨g68, e69⟩ := mkn_e e67
  refine g_newa (pc := 65) rfl 0 5 .int (5, .inl (fun _ => 0)) wd_92 rfl (fun _ => rfl) (fun _ _ _ a b => Option.some.inj (a.symm.trans b)) (fun _ => rfl) (fun _ => rfl) (fun _ z => absurd z id) (by decide) (by decide) (by decide) dd_M_new_43.2.2.2.2.2.2.2.2.2.2.2.2.1 g68 (okl_cons (okv_r (by omega)) (okl_nil)) (oks_cons (okv_r (by omega)) (oks_nil)) ?_
  rw [← e69]
  have h66_n : h66.1 = h62.1 + 1 := by rw [e69]; rfl
  obtain ⟨g72, hf⟩ := grd_e hf
  obtain ⟨h70, e71, hf⟩ := bd1_e hf
  refine g_putF (pc := 67) (ci := 8) (kk := 12) ty_M tyok_M nm_M dd_M_new_43.2.2.2.2.2.2.2.2.2.2.2.2.2.1 rfl in_M (by decide) wd_950 rfl rfl rfl (fun _ => rfl) (fun _ => rfl) (fun _ z => by cases z; omega) e71 ?_
  refine g_aload_n (pc := 70) 0 dd_M_new_43.2.2.2.2.2.2.2.2.2.2.2.2.2.2.1 rfl rfl ?_
  refine g_iconst (pc := 71) (5 : Int32) dd_M_new_43.2.2.2.2.2.2.2.2.2.2.2.2.2.2.2.1 (by decide) ?_
  obtain ⟨g73, hf⟩ := grd_e hf
  obtain ⟨h74, e75, hf⟩ := bd1_e hf
  obtain ⟨g76, e77⟩ := mkn_e e75
  refine g_newa (pc := 72) rfl 0 5 .int (5, .inl (fun _ => 0)) wd_92 rfl (fun _ => rfl) (fun _ _ _ a b => Option.some.inj (a.symm.trans b)) (fun _ => rfl) (fun _ => rfl) (fun _ z => absurd z id) (by decide) (by decide) (by decide) dd_M_new_43.2.2.2.2.2.2.2.2.2.2.2.2.2.2.2.2.1 g76 (okl_cons (okv_r (by omega)) (okl_nil)) (oks_cons (okv_r (by omega)) (oks_nil)) ?_
  rw [← e77]
  have h74_n : h74.1 = h70.1 + 1 := by rw [e77]; rfl
  obtain ⟨g80, hf⟩ := grd_e hf
  obtain ⟨h78, e79, hf⟩ := bd1_e hf
  refine g_putF (pc := 74) (ci := 8) (kk := 13) ty_M tyok_M nm_M dd_M_new_43.2.2.2.2.2.2.2.2.2.2.2.2.2.2.2.2.2.1 rfl in_M (by decide) wd_951 rfl rfl rfl (fun _ => rfl) (fun _ => rfl) (fun _ z => by cases z; omega) e79 ?_
  refine g_aload_n (pc := 77) 0 dd_M_new_43.2.2.2.2.2.2.2.2.2.2.2.2.2.2.2.2.2.2.1 rfl rfl ?_
  refine g_iconst (pc := 78) (5 : Int32) dd_M_new_43.2.2.2.2.2.2.2.2.2.2.2.2.2.2.2.2.2.2.2.1 (by decide) ?_
  obtain ⟨g81, hf⟩ := grd_e hf
  obtain ⟨h82, e83, hf⟩ := bd1_e hf
  obtain ⟨g84, e85⟩ := mkn_e e83
  refine g_newa (pc := 79) rfl 0 5 .int (5, .inl (fun _ => 0)) wd_92 rfl (fun _ => rfl) (fun _ _ _ a b => Option.some.inj (a.symm.trans b)) (fun _ => rfl) (fun _ => rfl) (fun _ z => absurd z id) (by decide) (by decide) (by decide) dd_M_new_43.2.2.2.2.2.2.2.2.2.2.2.2.2.2.2.2.2.2.2.2.1 g84 (okl_cons (okv_r (by omega)) (okl_nil)) (oks_cons (okv_r (by omega)) (oks_nil)) ?_
  rw [← e85]
  have h82_n : h82.1 = h78.1 + 1 := by rw [e85]; rfl
  obtain ⟨g88, hf⟩ := grd_e hf
  obtain ⟨h86, e87, hf⟩ := bd1_e hf
  refine g_putF (pc := 81) (ci := 8) (kk := 14) ty_M tyok_M nm_M dd_M_new_43.2.2.2.2.2.2.2.2.2.2.2.2.2.2.2.2.2.2.2.2.2.1 rfl in_M (by decide) wd_952 rfl rfl rfl (fun _ => rfl) (fun _ => rfl) (fun _ z => by cases z; omega) e87 ?_
  refine g_aload_n (pc := 84) 0 dd_M_new_43.2.2.2.2.2.2.2.2.2.2.2.2.2.2.2.2.2.2.2.2.2.2.1 rfl rfl ?_
  refine g_iconst (pc := 85) (3 : Int32) dd_M_new_43.2.2.2.2.2.2.2.2.2.2.2.2.2.2.2.2.2.2.2.2.2.2.2 (by decide) ?_
  obtain ⟨g89, hf⟩ := grd_e hf
  obtain ⟨h90, e91, hf⟩ := bd1_e hf
  obtain ⟨g92, e93⟩ := mkn_e e91
  refine g_newa (pc := 86) rfl 0 3 .int (3, .inl (fun _ => 0)) wd_92 rfl (fun _ => rfl) (fun _ _ _ a b => Option.some.inj (a.symm.trans b)) (fun _ => rfl) (fun _ => rfl) (fun _ z => absurd z id) (by decide) (by decide) (by decide) dd_M_new_86.1 g92 (okl_cons (okv_r (by omega)) (okl_nil)) (oks_cons (okv_r (by omega)) (oks_nil)) ?_
  rw [← e93]
  have h90_n : h90.1 = h86.1 + 1 := by rw [e93]; rfl
  obtain ⟨g96, hf⟩ := grd_e hf
  obtain ⟨h94, e95, hf⟩ := bd1_e hf
  refine g_putF (pc := 88) (ci := 8) (kk := 15) ty_M tyok_M nm_M dd_M_new_86.2.1 rfl in_M (by decide) wd_953 rfl rfl rfl (fun _ => rfl) (fun _ => rfl) (fun _ z => by cases z; omega) e95 ?_
  refine g_aload_n (pc := 91) 0 dd_M_new_86.2.2.1 rfl rfl ?_
  refine g_iconst (pc := 92) (3 : Int32) dd_M_new_86.2.2.2.1 (by decide) ?_
  obtain ⟨g97, hf⟩ := grd_e hf
  obtain ⟨h98, e99, hf⟩ := bd1_e hf
  obtain ⟨g100, e101⟩ := mkn_e e99
  refine g_newa (pc := 93) rfl 0 3 .int (3, .inl (fun _ => 0)) wd_92 rfl (fun _ => rfl) (fun _ _ _ a b => Option.some.inj (a.symm.trans b)) (fun _ => rfl) (fun _ => rfl) (fun _ z => absurd z id) (by decide) (by decide) (by decide) dd_M_new_86.2.2.2.2.1 g100 (okl_cons (okv_r (by omega)) (okl_nil)) (oks_cons (okv_r (by omega)) (oks_nil)) ?_
  rw [← e101]
  have h98_n : h98.1 = h94.1 + 1 := by rw [e101]; rfl
  obtain ⟨g104, hf⟩ := grd_e hf
  obtain ⟨h102, e103, hf⟩ := bd1_e hf
  refine g_putF (pc := 95) (ci := 8) (kk := 16) ty_M tyok_M nm_M dd_M_new_86.2.2.2.2.2.1 rfl in_M (by decide) wd_954 rfl rfl rfl (fun _ => rfl) (fun _ => rfl) (fun _ z => by cases z; omega) e103 ?_
  refine g_aload_n (pc := 98) 0 dd_M_new_86.2.2.2.2.2.2.1 rfl rfl ?_
  refine g_sipush (pc := 99) (160 : Int32) dd_M_new_86.2.2.2.2.2.2.2.1 (by decide) ?_
  obtain ⟨g105, hf⟩ := grd_e hf
  obtain ⟨h106, e107, hf⟩ := bd1_e hf
  obtain ⟨g108, e109⟩ := mkn_e e107
  refine g_newa (pc := 102) rfl 0 160 .int (160, .inl (fun _ => 0)) wd_92 rfl (fun _ => rfl) (fun _ _ _ a b => Option.some.inj (a.symm.trans b)) (fun _ => rfl) (fun _ => rfl) (fun _ z => absurd z id) (by decide) (by decide) (by decide) dd_M_new_86.2.2.2.2.2.2.2.2.1 g108 (okl_cons (okv_r (by omega)) (okl_nil)) (oks_cons (okv_r (by omega)) (oks_nil)) ?_
  rw [← e109]
  have h106_n : h106.1 = h102.1 + 1 := by rw [e109]; rfl
  obtain ⟨g112, hf⟩ := grd_e hf
  obtain ⟨h110, e111, hf⟩ := bd1_e hf
  refine g_putF (pc := 104) (ci := 8) (kk := 19) ty_M tyok_M nm_M dd_M_new_86.2.2.2.2.2.2.2.2.2.1 rfl in_M (by decide) wd_957 rfl rfl rfl (fun _ => rfl) (fun _ => rfl) (fun _ z => by cases z; omega) e111 ?_
  refine g_aload_n (pc := 107) 0 dd_M_new_86.2.2.2.2.2.2.2.2.2.2.1 rfl rfl ?_
  refine g_sipush (pc := 108) (24576 : Int32) dd_M_new_86.2.2.2.2.2.2.2.2.2.2.2.1 (by decide) ?_
  obtain ⟨g113, hf⟩ := grd_e hf
  obtain ⟨h114, e115, hf⟩ := bd1_e hf
  obtain ⟨g116, e117⟩ := mkn_e e115
  refine g_newa (pc := 111) rfl 0 24576 .int (24576, .inl (fun _ => 0)) wd_92 rfl (fun _ => rfl) (fun _ _ _ a b => Option.some.inj (a.symm.trans b)) (fun _ => rfl) (fun _ => rfl) (fun _ z => absurd z id) (by decide) (by decide) (by decide) dd_M_new_86.2.2.2.2.2.2.2.2.2.2.2.2.1 g116 (okl_cons (okv_r (by omega)) (okl_nil)) (oks_cons (okv_r (by omega)) (oks_nil)) ?_
  rw [← e117]
  have h114_n : h114.1 = h110.1 + 1 := by rw [e117]; rfl
  obtain ⟨g120, hf⟩ := grd_e hf
  obtain ⟨h118, e119, hf⟩ := bd1_e hf
  refine g_putF (pc := 113) (ci := 8) (kk := 27) ty_M tyok_M nm_M dd_M_new_86.2.2.2.2.2.2.2.2.2.2.2.2.2.1 rfl in_M (by decide) wd_965 rfl rfl rfl (fun _ => rfl) (fun _ => rfl) (fun _ z => by cases z; omega) e119 ?_
  refine g_aload_n (pc := 116) 0 dd_M_new_86.2.2.2.2.2.2.2.2.2.2.2.2.2.2.1 rfl rfl ?_
  refine g_iconst (pc := 117) (5 : Int32) dd_M_new_86.2.2.2.2.2.2.2.2.2.2.2.2.2.2.2.1 (by decide) ?_
  obtain ⟨g121, hf⟩ := grd_e hf
  obtain ⟨h122, e123, hf⟩ := bd1_e hf
  obtain ⟨g124, e125⟩ := mkn_e e123
  refine g_newa (pc := 118) rfl 0 5 .int (5, .inl (fun _ => 0)) wd_92 rfl (fun _ => rfl) (fun _ _ _ a b => Option.some.inj (a.symm.trans b)) (fun _ => rfl) (fun _ => rfl) (fun _ z => absurd z id) (by decide) (by decide) (by decide) dd_M_new_86.2.2.2.2.2.2.2.2.2.2.2.2.2.2.2.2.1 g124 (okl_cons (okv_r (by omega)) (okl_nil)) (oks_cons (okv_r (by omega)) (oks_nil)) ?_
  rw [← e125]
  have h122_n : h122.1 = h118.1 + 1 := by rw [e125]; rfl
  obtain ⟨g128, hf⟩ := grd_e hf
  obtain ⟨h126, e127, hf⟩ := bd1_e hf
  refine g_putF (pc := 120) (ci := 8) (kk := 28) ty_M tyok_M nm_M dd_M_new_86.2.2.2.2.2.2.2.2.2.2.2.2.2.2.2.2.2.1 rfl in_M (by decide) wd_966 rfl rfl rfl (fun _ => rfl) (fun _ => rfl) (fun _ z => by cases z; omega) e127 ?_
  refine g_aload_n (pc := 123) 0 dd_M_new_86.2.2.2.2.2.2.2.2.2.2.2.2.2.2.2.2.2.2.1 rfl rfl ?_
  refine g_iconst (pc := 124) (3 : Int32) dd_M_new_86.2.2.2.2.2.2.2.2.2.2.2.2.2.2.2.2.2.2.2.1 (by decide) ?_
  obtain ⟨g129, hf⟩ := grd_e hf
  obtain ⟨h130, e131, hf⟩ := bd1_e hf
  obtain ⟨g132, e133⟩ := mkn_e e131
  refine g_newa (pc := 125) rfl 0 3 .int (3, .inl (fun _ => 0)) wd_92 rfl (fun _ => rfl) (fun _ _ _ a b => Option.some.inj (a.symm.trans b)) (fun _ => rfl) (fun _ => rfl) (fun _ z => absurd z id) (by decide) (by decide) (by decide) dd_M_new_86.2.2.2.2.2.2.2.2.2.2.2.2.2.2.2.2.2.2.2.2.1 g132 (okl_cons (okv_r (by omega)) (okl_nil)) (oks_cons (okv_r (by omega)) (oks_nil)) ?_
  rw [← e133]
  have h130_n : h130.1 = h126.1 + 1 := by rw [e133]; rfl
  obtain ⟨g136, hf⟩ := grd_e hf
  obtain ⟨h134, e135, hf⟩ := bd1_e hf
  refine g_putF (pc := 127) (ci := 8) (kk := 29) ty_M tyok_M nm_M dd_M_new_86.2.2.2.2.2.2.2.2.2.2.2.2.2.2.2.2.2.2.2.2.2.1 rfl in_M (by decide) wd_967 rfl rfl rfl (fun _ => rfl) (fun _ => rfl) (fun _ z => by cases z; omega) e135 ?_
  refine g_aload_n (pc := 130) 0 dd_M_new_86.2.2.2.2.2.2.2.2.2.2.2.2.2.2.2.2.2.2.2.2.2.2.1 rfl rfl ?_
  refine g_iconst (pc := 131) (3 : Int32) dd_M_new_86.2.2.2.2.2.2.2.2.2.2.2.2.2.2.2.2.2.2.2.2.2.2.2 (by decide) ?_
  obtain ⟨g137, hf⟩ := grd_e hf
  obtain ⟨h138, e139, hf⟩ := bd1_e hf
  obtain ⟨g140, e141⟩ := mkn_e e139
  refine g_newa (pc := 132) rfl 0 3 .int (3, .inl (fun _ => 0)) wd_92 rfl (fun _ => rfl) (fun _ _ _ a b => Option.some.inj (a.symm.trans b)) (fun _ => rfl) (fun _ => rfl) (fun _ z => absurd z id) (by decide) (by decide) (by decide) dd_M_new_132.1 g140 (okl_cons (okv_r (by omega)) (okl_nil)) (oks_cons (okv_r (by omega)) (oks_nil)) ?_
  rw [← e141]
  have h138_n : h138.1 = h134.1 + 1 := by rw [e141]; rfl
  obtain ⟨g144, hf⟩ := grd_e hf
  obtain ⟨h142, e143, hf⟩ := bd1_e hf
  refine g_putF (pc := 134) (ci := 8) (kk := 30) ty_M tyok_M nm_M dd_M_new_132.2.1 rfl in_M (by decide) wd_968 rfl rfl rfl (fun _ => rfl) (fun _ => rfl) (fun _ z => by cases z; omega) e143 ?_
  refine g_aload_n (pc := 137) 0 dd_M_new_132.2.2.1 rfl rfl ?_
  refine g_bipush (pc := 138) (66 : Int32) dd_M_new_132.2.2.2.1 (by decide) ?_
  obtain ⟨g145, hf⟩ := grd_e hf
  obtain ⟨h146, e147, hf⟩ := bd1_e hf
  obtain ⟨g148, e149⟩ := mkn_e e147
  refine g_newa (pc := 140) rfl 0 66 .int (66, .inl (fun _ => 0)) wd_92 rfl (fun _ => rfl) (fun _ _ _ a b => Option.some.inj (a.symm.trans b)) (fun _ => rfl) (fun _ => rfl) (fun _ z => absurd z id) (by decide) (by decide) (by decide) dd_M_new_132.2.2.2.2.1 g148 (okl_cons (okv_r (by omega)) (okl_nil)) (oks_cons (okv_r (by omega)) (oks_nil)) ?_
  rw [← e149]
  have h146_n : h146.1 = h142.1 + 1 := by rw [e149]; rfl
  obtain ⟨g152, hf⟩ := grd_e hf
  obtain ⟨h150, e151, hf⟩ := bd1_e hf
  refine g_putF (pc := 142) (ci := 8) (kk := 31) ty_M tyok_M nm_M dd_M_new_132.2.2.2.2.2.1 rfl in_M (by decide) wd_969 rfl rfl rfl (fun _ => rfl) (fun _ => rfl) (fun _ z => by cases z; omega) e151 ?_
  refine g_aload_n (pc := 145) 0 dd_M_new_132.2.2.2.2.2.2.1 rfl rfl ?_
  refine g_bipush (pc := 146) (16 : Int32) dd_M_new_132.2.2.2.2.2.2.2.1 (by decide) ?_
  obtain ⟨g153, hf⟩ := grd_e hf
  obtain ⟨h154, e155, hf⟩ := bd1_e hf
  obtain ⟨g156, e157⟩ := mkn_e e155
  refine g_newa (pc := 148) rfl 3 16 .long (16, .inr (.inl (fun _ => 0))) wd_261 rfl (fun _ => rfl) (fun _ _ _ a b => Option.some.inj (a.symm.trans b)) (fun _ => rfl) (fun _ => rfl) (fun _ z => absurd z id) (by decide) (by decide) (by decide) dd_M_new_132.2.2.2.2.2.2.2.2.1 g156 (okl_cons (okv_r (by omega)) (okl_nil)) (oks_cons (okv_r (by omega)) (oks_nil)) ?_
  rw [← e157]
  have h154_n : h154.1 = h150.1 + 1 := by rw [e157]; rfl
  obtain ⟨g160, hf⟩ := grd_e hf
  obtain ⟨h158, e159, hf⟩ := bd1_e hf
  refine g_putF (pc := 150) (ci := 8) (kk := 32) ty_M tyok_M nm_M dd_M_new_132.2.2.2.2.2.2.2.2.2.1 rfl in_M (by decide) wd_970 rfl rfl rfl (fun _ => rfl) (fun _ => rfl) (fun _ z => by cases z; omega) e159 ?_
  refine g_aload_n (pc := 153) 0 dd_M_new_132.2.2.2.2.2.2.2.2.2.2.1 rfl rfl ?_
  refine g_sipush (pc := 154) (216 : Int32) dd_M_new_132.2.2.2.2.2.2.2.2.2.2.2.1 (by decide) ?_
  obtain ⟨g161, hf⟩ := grd_e hf
  obtain ⟨h162, e163, hf⟩ := bd1_e hf
  obtain ⟨g164, e165⟩ := mkn_e e163
  refine g_newa (pc := 157) rfl 3 216 .long (216, .inr (.inl (fun _ => 0))) wd_261 rfl (fun _ => rfl) (fun _ _ _ a b => Option.some.inj (a.symm.trans b)) (fun _ => rfl) (fun _ => rfl) (fun _ z => absurd z id) (by decide) (by decide) (by decide) dd_M_new_132.2.2.2.2.2.2.2.2.2.2.2.2.1 g164 (okl_cons (okv_r (by omega)) (okl_nil)) (oks_cons (okv_r (by omega)) (oks_nil)) ?_
  rw [← e165]
  have h162_n : h162.1 = h158.1 + 1 := by rw [e165]; rfl
  obtain ⟨g168, hf⟩ := grd_e hf
  obtain ⟨h166, e167, hf⟩ := bd1_e hf
  refine g_putF (pc := 159) (ci := 8) (kk := 33) ty_M tyok_M nm_M dd_M_new_132.2.2.2.2.2.2.2.2.2.2.2.2.2.1 rfl in_M (by decide) wd_971 rfl rfl rfl (fun _ => rfl) (fun _ => rfl) (fun _ z => by cases z; omega) e167 ?_
  refine g_aload_n (pc := 162) 0 dd_M_new_132.2.2.2.2.2.2.2.2.2.2.2.2.2.2.1 rfl rfl ?_
  refine g_sipush (pc := 163) (216 : Int32) dd_M_new_132.2.2.2.2.2.2.2.2.2.2.2.2.2.2.2.1 (by decide) ?_
  obtain ⟨g169, hf⟩ := grd_e hf
  obtain ⟨h170, e171, hf⟩ := bd1_e hf
  obtain ⟨g172, e173⟩ := mkn_e e171
  refine g_newa (pc := 166) rfl 3 216 .long (216, .inr (.inl (fun _ => 0))) wd_261 rfl (fun _ => rfl) (fun _ _ _ a b => Option.some.inj (a.symm.trans b)) (fun _ => rfl) (fun _ => rfl) (fun _ z => absurd z id) (by decide) (by decide) (by decide) dd_M_new_132.2.2.2.2.2.2.2.2.2.2.2.2.2.2.2.2.1 g172 (okl_cons (okv_r (by omega)) (okl_nil)) (oks_cons (okv_r (by omega)) (oks_nil)) ?_
  rw [← e173]
  have h170_n : h170.1 = h166.1 + 1 := by rw [e173]; rfl
  obtain ⟨g176, hf⟩ := grd_e hf
  obtain ⟨h174, e175, hf⟩ := bd1_e hf
  refine g_putF (pc := 168) (ci := 8) (kk := 34) ty_M tyok_M nm_M dd_M_new_132.2.2.2.2.2.2.2.2.2.2.2.2.2.2.2.2.2.1 rfl in_M (by decide) wd_972 rfl rfl rfl (fun _ => rfl) (fun _ => rfl) (fun _ z => by cases z; omega) e175 ?_
  refine g_aload_n (pc := 171) 0 dd_M_new_132.2.2.2.2.2.2.2.2.2.2.2.2.2.2.2.2.2.2.1 rfl rfl ?_
  refine g_iconst (pc := 172) (4 : Int32) dd_M_new_132.2.2.2.2.2.2.2.2.2.2.2.2.2.2.2.2.2.2.2.1 (by decide) ?_
  obtain ⟨g177, hf⟩ := grd_e hf
  obtain ⟨h178, e179, hf⟩ := bd1_e hf
  obtain ⟨g180, e181⟩ := mkn_e e179
  refine g_newa (pc := 173) rfl 0 4 .int (4, .inl (fun _ => 0)) wd_92 rfl (fun _ => rfl) (fun _ _ _ a b => Option.some.inj (a.symm.trans b)) (fun _ => rfl) (fun _ => rfl) (fun _ z => absurd z id) (by decide) (by decide) (by decide) dd_M_new_132.2.2.2.2.2.2.2.2.2.2.2.2.2.2.2.2.2.2.2.2.1 g180 (okl_cons (okv_r (by omega)) (okl_nil)) (oks_cons (okv_r (by omega)) (oks_nil)) ?_
  rw [← e181]
  have h178_n : h178.1 = h174.1 + 1 := by rw [e181]; rfl
  obtain ⟨g184, hf⟩ := grd_e hf
  obtain ⟨h182, e183, hf⟩ := bd1_e hf
  refine g_putF (pc := 175) (ci := 8) (kk := 35) ty_M tyok_M nm_M dd_M_new_132.2.2.2.2.2.2.2.2.2.2.2.2.2.2.2.2.2.2.2.2.2.1 rfl in_M (by decide) wd_973 rfl rfl rfl (fun _ => rfl) (fun _ => rfl) (fun _ z => by cases z; omega) e183 ?_
  refine g_aload_n (pc := 178) 0 dd_M_new_132.2.2.2.2.2.2.2.2.2.2.2.2.2.2.2.2.2.2.2.2.2.2.1 rfl rfl ?_
  refine g_iconst (pc := 179) (4 : Int32) dd_M_new_132.2.2.2.2.2.2.2.2.2.2.2.2.2.2.2.2.2.2.2.2.2.2.2 (by decide) ?_
  obtain ⟨g185, hf⟩ := grd_e hf
  obtain ⟨h186, e187, hf⟩ := bd1_e hf
  obtain ⟨g188, e189⟩ := mkn_e e187
  refine g_newa (pc := 180) rfl 0 4 .int (4, .inl (fun _ => 0)) wd_92 rfl (fun _ => rfl) (fun _ _ _ a b => Option.some.inj (a.symm.trans b)) (fun _ => rfl) (fun _ => rfl) (fun _ z => absurd z id) (by decide) (by decide) (by decide) dd_M_new_180.1 g188 (okl_cons (okv_r (by omega)) (okl_nil)) (oks_cons (okv_r (by omega)) (oks_nil)) ?_
  rw [← e189]
  have h186_n : h186.1 = h182.1 + 1 := by rw [e189]; rfl
  obtain ⟨g192, hf⟩ := grd_e hf
  obtain ⟨h190, e191, hf⟩ := bd1_e hf
  refine g_putF (pc := 182) (ci := 8) (kk := 36) ty_M tyok_M nm_M dd_M_new_180.2.1 rfl in_M (by decide) wd_974 rfl rfl rfl (fun _ => rfl) (fun _ => rfl) (fun _ z => by cases z; omega) e191 ?_
  refine g_aload_n (pc := 185) 0 dd_M_new_180.2.2.1 rfl rfl ?_
  refine g_sipush (pc := 186) (160 : Int32) dd_M_new_180.2.2.2.1 (by decide) ?_
  obtain ⟨g193, hf⟩ := grd_e hf
  obtain ⟨h194, e195, hf⟩ := bd1_e hf
  obtain ⟨g196, e197⟩ := mkn_e e195
  refine g_newa (pc := 189) rfl 0 160 .int (160, .inl (fun _ => 0)) wd_92 rfl (fun _ => rfl) (fun _ _ _ a b => Option.some.inj (a.symm.trans b)) (fun _ => rfl) (fun _ => rfl) (fun _ z => absurd z id) (by decide) (by decide) (by decide) dd_M_new_180.2.2.2.2.1 g196 (okl_cons (okv_r (by omega)) (okl_nil)) (oks_cons (okv_r (by omega)) (oks_nil)) ?_
  rw [← e197]
  have h194_n : h194.1 = h190.1 + 1 := by rw [e197]; rfl
  obtain ⟨g200, hf⟩ := grd_e hf
  obtain ⟨h198, e199, hf⟩ := bd1_e hf
  refine g_putF (pc := 191) (ci := 8) (kk := 37) ty_M tyok_M nm_M dd_M_new_180.2.2.2.2.2.1 rfl in_M (by decide) wd_975 rfl rfl rfl (fun _ => rfl) (fun _ => rfl) (fun _ z => by cases z; omega) e199 ?_
  refine g_iconst (pc := 194) (0 : Int32) dd_M_new_180.2.2.2.2.2.2.1 (by decide) ?_
  refine g_istore_n (pc := 195) [(1, .int (0 : Int32)), (0, .ref a0)] dd_M_new_180.2.2.2.2.2.2.2.1 rfl (Nat.le_of_ble_eq_true rfl) rfl ?_
  refine g_lv [1, 0] rfl ?_
  exact t_M_new_196  FU _ _ _ _  hf
def f_M_new (a0 : Nat) (h : mH) : Option mH := f_M_new_0 a0 h
theorem c_M_new {sc : Nat × (Nat → Int32)} {a0 : Nat} {h : mH} {h' : mH} (hf : f_M_new a0 h = some h') : MM sc y_M_new prog_10_method_1_code 2 none 1 21 [.ref a0] h none h' :=
  mm_of_G si_pn_M (Nat.le_of_ble_eq_true rfl) (t_M_new_0 _ _ _ hf)
end
