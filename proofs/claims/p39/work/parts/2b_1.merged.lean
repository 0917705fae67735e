/-! 22.model -/
section
/-! M falls ()I -/
set_option maxRecDepth 100000 in
theorem dd_M_falls_0 : (decode prog_10_method_51_code 0 = .ok (.aload_n 0, 1)) ∧ (decode prog_10_method_51_code 1 = .ok (.invokevirtual 240, 3)) ∧ (decode prog_10_method_51_code 4 = .ok (.ireturn, 1)) := by
  have h : List.drop 0 prog_10_method_51_code.data.toList = 0x2a :: _ := rfl
  refine ⟨zq_k_n 42 h rfl (zq_o_42 _), ?_⟩
  replace h := zq_nx1 (q := 1) h rfl
  refine ⟨zq_k_u2 182 (fun z => .invokevirtual z) 240 h rfl (zq_o_182 _) (by decide +kernel), ?_⟩
  replace h := zq_nx3 (q := 4) h rfl
  exact zq_k_n 172 h rfl (zq_o_172 _)
def f_M_falls_0  (a0 : Nat) (h : mH) : Option (Int32 × mH) :=
  bd1 (kC h a0 8) fun _ =>
  bd2 (f_M_fallsNow a0 h) fun x5 h3 =>
  some (x5, h3)
set_option maxRecDepth 20000 in
theorem t_M_falls_0 {sc : Nat × (Nat → Int32)}  (a0 : Nat) (h : mH) (r : Int32) (h' : mH) (hf : f_M_falls_0  a0 h = some (r, h')) : G sc y_M_falls prog_10_method_51_code 1 (some .int) 3 67 0 [(0, .ref a0)] [] h (some (.int r)) h' := by
  unfold f_M_falls_0 at hf
  refine g_aload_n (pc := 0) 0 dd_M_falls_0.1 rfl rfl ?_
  obtain ⟨u2, e1, hf⟩ := bd1_e hf
  obtain ⟨x5, h3, e4, hf⟩ := bd2_e hf
  refine g_callV (pc := 1) (ci := 8) [] (site_of si_M_fallsNow (by decide) (by decide)) wd_1241 wd_1243 wp_56 dd_M_falls_0.2.1 rfl e1 (Nat.le_of_ble_eq_true rfl) (fun z => absurd z si_na_M_fallsNow) (fun z => absurd z si_na_M_fallsNow) (fun z => absurd z si_na_M_fallsNow) (c_M_fallsNow e4) rfl ?_
  refine g_st [.int x5] rfl ?_
  obtain ⟨rfl, rfl⟩ := ret2 hf
  exact g_iret (pc := 4) rfl dd_M_falls_0.2.2
def f_M_falls (a0 : Nat) (h : mH) : Option (Int32 × mH) := f_M_falls_0 a0 h
theorem c_M_falls {sc : Nat × (Nat → Int32)} {a0 : Nat} {h : mH} {r : Int32} {h' : mH} (hf : f_M_falls a0 h = some (r, h')) : MM sc y_M_falls prog_10_method_51_code 1 (some .int) 3 67 [.ref a0] h (some (.int r)) h' :=
  mm_of_G si_pn_M (Nat.le_of_ble_eq_true rfl) (t_M_falls_0 _ _ _ _ hf)
/-! M most (I)I -/
set_option maxRecDepth 100000 in
theorem dd_M_most_0 : (decode prog_10_method_52_code 0 = .ok (.iload_n 1, 1)) ∧ (decode prog_10_method_52_code 1 = .ok (.i2l, 1)) ∧ (decode prog_10_method_52_code 2 = .ok (.lconst 0, 1)) ∧ (decode prog_10_method_52_code 3 = .ok (.lconst 1, 1)) ∧ (decode prog_10_method_52_code 4 = .ok (.invokestatic 114, 3)) ∧ (decode prog_10_method_52_code 7 = .ok (.ifCond .ne 5, 3)) ∧ (decode prog_10_method_52_code 10 = .ok (.iconst (-1), 1)) ∧ (decode prog_10_method_52_code 11 = .ok (.ireturn, 1)) ∧ (decode prog_10_method_52_code 12 = .ok (.bipush (-4), 2)) ∧ (decode prog_10_method_52_code 14 = .ok (.istore_n 2, 1)) ∧ (decode prog_10_method_52_code 15 = .ok (.iconst 0, 1)) ∧ (decode prog_10_method_52_code 16 = .ok (.istore_n 3, 1)) ∧ (decode prog_10_method_52_code 17 = .ok (.iconst 0, 1)) ∧ (decode prog_10_method_52_code 18 = .ok (.istore 4, 2)) ∧ (decode prog_10_method_52_code 20 = .ok (.iload 4, 2)) ∧ (decode prog_10_method_52_code 22 = .ok (.aload_n 0, 1)) ∧ (decode prog_10_method_52_code 23 = .ok (.getfield 106, 3)) ∧ (decode prog_10_method_52_code 26 = .ok (.if_icmp .ge 67, 3)) ∧ (decode prog_10_method_52_code 29 = .ok (.aload_n 0, 1)) ∧ (decode prog_10_method_52_code 30 = .ok (.iload 4, 2)) ∧ (decode prog_10_method_52_code 32 = .ok (.invokevirtual 191, 3)) ∧ (decode prog_10_method_52_code 35 = .ok (.ifCond .eq 23, 3)) ∧ (decode prog_10_method_52_code 38 = .ok (.aload_n 0, 1)) ∧ (decode prog_10_method_52_code 39 = .ok (.iload 4, 2)) := by
  have h : List.drop 0 prog_10_method_52_code.data.toList = 0x1b :: _ := rfl
  refine ⟨zq_k_n 27 h rfl (zq_o_27 _), ?_⟩
  replace h := zq_nx1 (q := 1) h rfl
  refine ⟨zq_k_n 133 h rfl (zq_o_133 _), ?_⟩
  replace h := zq_nx1 (q := 2) h rfl
  refine ⟨zq_k_n 9 h rfl (zq_o_9 _), ?_⟩
  replace h := zq_nx1 (q := 3) h rfl
  refine ⟨zq_k_n 10 h rfl (zq_o_10 _), ?_⟩
  replace h := zq_nx1 (q := 4) h rfl
  refine ⟨zq_k_u2 184 (fun z => .invokestatic z) 114 h rfl (zq_o_184 _) (by decide +kernel), ?_⟩
  replace h := zq_nx3 (q := 7) h rfl
  refine ⟨zq_k_s2 154 (fun z => .ifCond .ne z) 5 h rfl (zq_o_154 _) (by decide +kernel), ?_⟩
  replace h := zq_nx3 (q := 10) h rfl
  refine ⟨zq_k_n 2 h rfl (zq_o_2 _), ?_⟩
  replace h := zq_nx1 (q := 11) h rfl
  refine ⟨zq_k_n 172 h rfl (zq_o_172 _), ?_⟩
  replace h := zq_nx1 (q := 12) h rfl
  refine ⟨zq_k_s1 16 (fun z => .bipush z) (-4) h rfl (zq_o_16 _) (by decide +kernel), ?_⟩
  replace h := zq_nx2 (q := 14) h rfl
  refine ⟨zq_k_n 61 h rfl (zq_o_61 _), ?_⟩
  replace h := zq_nx1 (q := 15) h rfl
  refine ⟨zq_k_n 3 h rfl (zq_o_3 _), ?_⟩
  replace h := zq_nx1 (q := 16) h rfl
  refine ⟨zq_k_n 62 h rfl (zq_o_62 _), ?_⟩
  replace h := zq_nx1 (q := 17) h rfl
  refine ⟨zq_k_n 3 h rfl (zq_o_3 _), ?_⟩
  replace h := zq_nx1 (q := 18) h rfl
  refine ⟨zq_k_u1 54 (fun z => .istore z) 4 h rfl (zq_o_54 _) (by decide +kernel), ?_⟩
  replace h := zq_nx2 (q := 20) h rfl
  refine ⟨zq_k_u1 21 (fun z => .iload z) 4 h rfl (zq_o_21 _) (by decide +kernel), ?_⟩
  replace h := zq_nx2 (q := 22) h rfl
  refine ⟨zq_k_n 42 h rfl (zq_o_42 _), ?_⟩
  replace h := zq_nx1 (q := 23) h rfl
  refine ⟨zq_k_u2 180 (fun z => .getfield z) 106 h rfl (zq_o_180 _) (by decide +kernel), ?_⟩
  replace h := zq_nx3 (q := 26) h rfl
  refine ⟨zq_k_s2 162 (fun z => .if_icmp .ge z) 67 h rfl (zq_o_162 _) (by decide +kernel), ?_⟩
  replace h := zq_nx3 (q := 29) h rfl
  refine ⟨zq_k_n 42 h rfl (zq_o_42 _), ?_⟩
  replace h := zq_nx1 (q := 30) h rfl
  refine ⟨zq_k_u1 21 (fun z => .iload z) 4 h rfl (zq_o_21 _) (by decide +kernel), ?_⟩
  replace h := zq_nx2 (q := 32) h rfl
  refine ⟨zq_k_u2 182 (fun z => .invokevirtual z) 191 h rfl (zq_o_182 _) (by decide +kernel), ?_⟩
  replace h := zq_nx3 (q := 35) h rfl
  refine ⟨zq_k_s2 153 (fun z => .ifCond .eq z) 23 h rfl (zq_o_153 _) (by decide +kernel), ?_⟩
  replace h := zq_nx3 (q := 38) h rfl
  refine ⟨zq_k_n 42 h rfl (zq_o_42 _), ?_⟩
  replace h := zq_nx1 (q := 39) h rfl
  exact zq_k_u1 21 (fun z => .iload z) 4 h rfl (zq_o_21 _) (by decide +kernel)
set_option maxRecDepth 100000 in
theorem dd_M_most_41 : (decode prog_10_method_52_code 41 = .ok (.invokevirtual 207, 3)) ∧ (decode prog_10_method_52_code 44 = .ok (.aload_n 0, 1)) ∧ (decode prog_10_method_52_code 45 = .ok (.getfield 7, 3)) ∧ (decode prog_10_method_52_code 48 = .ok (.bipush 10, 2)) ∧ (decode prog_10_method_52_code 50 = .ok (.iaload, 1)) ∧ (decode prog_10_method_52_code 51 = .ok (.iand, 1)) ∧ (decode prog_10_method_52_code 52 = .ok (.invokestatic 237, 3)) ∧ (decode prog_10_method_52_code 55 = .ok (.goto 4, 3)) ∧ (decode prog_10_method_52_code 58 = .ok (.iconst 0, 1)) ∧ (decode prog_10_method_52_code 59 = .ok (.istore 5, 2)) ∧ (decode prog_10_method_52_code 61 = .ok (.iload 5, 2)) ∧ (decode prog_10_method_52_code 63 = .ok (.iload_n 3, 1)) ∧ (decode prog_10_method_52_code 64 = .ok (.if_icmp .le 8, 3)) ∧ (decode prog_10_method_52_code 67 = .ok (.iload 4, 2)) ∧ (decode prog_10_method_52_code 69 = .ok (.goto 4, 3)) ∧ (decode prog_10_method_52_code 72 = .ok (.iload_n 2, 1)) ∧ (decode prog_10_method_52_code 73 = .ok (.istore_n 2, 1)) ∧ (decode prog_10_method_52_code 74 = .ok (.iload 5, 2)) ∧ (decode prog_10_method_52_code 76 = .ok (.iload_n 3, 1)) ∧ (decode prog_10_method_52_code 77 = .ok (.if_icmp .le 8, 3)) ∧ (decode prog_10_method_52_code 80 = .ok (.iload 5, 2)) ∧ (decode prog_10_method_52_code 82 = .ok (.goto 4, 3)) ∧ (decode prog_10_method_52_code 85 = .ok (.iload_n 3, 1)) ∧ (decode prog_10_method_52_code 86 = .ok (.istore_n 3, 1)) := by
  have h : List.drop 41 prog_10_method_52_code.data.toList = 0xb6 :: _ := rfl
  refine ⟨zq_k_u2 182 (fun z => .invokevirtual z) 207 h rfl (zq_o_182 _) (by decide +kernel), ?_⟩
  replace h := zq_nx3 (q := 44) h rfl
  refine ⟨zq_k_n 42 h rfl (zq_o_42 _), ?_⟩
  replace h := zq_nx1 (q := 45) h rfl
  refine ⟨zq_k_u2 180 (fun z => .getfield z) 7 h rfl (zq_o_180 _) (by decide +kernel), ?_⟩
  replace h := zq_nx3 (q := 48) h rfl
  refine ⟨zq_k_s1 16 (fun z => .bipush z) 10 h rfl (zq_o_16 _) (by decide +kernel), ?_⟩
  replace h := zq_nx2 (q := 50) h rfl
  refine ⟨zq_k_n 46 h rfl (zq_o_46 _), ?_⟩
  replace h := zq_nx1 (q := 51) h rfl
  refine ⟨zq_k_n 126 h rfl (zq_o_126 _), ?_⟩
  replace h := zq_nx1 (q := 52) h rfl
  refine ⟨zq_k_u2 184 (fun z => .invokestatic z) 237 h rfl (zq_o_184 _) (by decide +kernel), ?_⟩
  replace h := zq_nx3 (q := 55) h rfl
  refine ⟨zq_k_s2 167 (fun z => .goto z) 4 h rfl (zq_o_167 _) (by decide +kernel), ?_⟩
  replace h := zq_nx3 (q := 58) h rfl
  refine ⟨zq_k_n 3 h rfl (zq_o_3 _), ?_⟩
  replace h := zq_nx1 (q := 59) h rfl
  refine ⟨zq_k_u1 54 (fun z => .istore z) 5 h rfl (zq_o_54 _) (by decide +kernel), ?_⟩
  replace h := zq_nx2 (q := 61) h rfl
  refine ⟨zq_k_u1 21 (fun z => .iload z) 5 h rfl (zq_o_21 _) (by decide +kernel), ?_⟩
  replace h := zq_nx2 (q := 63) h rfl
  refine ⟨zq_k_n 29 h rfl (zq_o_29 _), ?_⟩
  replace h := zq_nx1 (q := 64) h rfl
  refine ⟨zq_k_s2 164 (fun z => .if_icmp .le z) 8 h rfl (zq_o_164 _) (by decide +kernel), ?_⟩
  replace h := zq_nx3 (q := 67) h rfl
  refine ⟨zq_k_u1 21 (fun z => .iload z) 4 h rfl (zq_o_21 _) (by decide +kernel), ?_⟩
  replace h := zq_nx2 (q := 69) h rfl
  refine ⟨zq_k_s2 167 (fun z => .goto z) 4 h rfl (zq_o_167 _) (by decide +kernel), ?_⟩
  replace h := zq_nx3 (q := 72) h rfl
  refine ⟨zq_k_n 28 h rfl (zq_o_28 _), ?_⟩
  replace h := zq_nx1 (q := 73) h rfl
  refine ⟨zq_k_n 61 h rfl (zq_o_61 _), ?_⟩
  replace h := zq_nx1 (q := 74) h rfl
  refine ⟨zq_k_u1 21 (fun z => .iload z) 5 h rfl (zq_o_21 _) (by decide +kernel), ?_⟩
  replace h := zq_nx2 (q := 76) h rfl
  refine ⟨zq_k_n 29 h rfl (zq_o_29 _), ?_⟩
  replace h := zq_nx1 (q := 77) h rfl
  refine ⟨zq_k_s2 164 (fun z => .if_icmp .le z) 8 h rfl (zq_o_164 _) (by decide +kernel), ?_⟩
  replace h := zq_nx3 (q := 80) h rfl
  refine ⟨zq_k_u1 21 (fun z => .iload z) 5 h rfl (zq_o_21 _) (by decide +kernel), ?_⟩
  replace h := zq_nx2 (q := 82) h rfl
  refine ⟨zq_k_s2 167 (fun z => .goto z) 4 h rfl (zq_o_167 _) (by decide +kernel), ?_⟩
  replace h := zq_nx3 (q := 85) h rfl
  refine ⟨zq_k_n 29 h rfl (zq_o_29 _), ?_⟩
  replace h := zq_nx1 (q := 86) h rfl
  exact zq_k_n 62 h rfl (zq_o_62 _)
set_option maxRecDepth 100000 in
theorem dd_M_most_87 : (decode prog_10_method_52_code 87 = .ok (.iinc 4 1, 3)) ∧ (decode prog_10_method_52_code 90 = .ok (.goto (-70), 3)) ∧ (decode prog_10_method_52_code 93 = .ok (.iload_n 2, 1)) ∧ (decode prog_10_method_52_code 94 = .ok (.bipush (-4), 2)) ∧ (decode prog_10_method_52_code 96 = .ok (.if_icmp .ne 8, 3)) ∧ (decode prog_10_method_52_code 99 = .ok (.bipush (-4), 2)) ∧ (decode prog_10_method_52_code 101 = .ok (.goto 12, 3)) ∧ (decode prog_10_method_52_code 104 = .ok (.iload_n 1, 1)) ∧ (decode prog_10_method_52_code 105 = .ok (.ifCond .ne 7, 3)) ∧ (decode prog_10_method_52_code 108 = .ok (.iload_n 2, 1)) ∧ (decode prog_10_method_52_code 109 = .ok (.goto 4, 3)) ∧ (decode prog_10_method_52_code 112 = .ok (.iload_n 3, 1)) ∧ (decode prog_10_method_52_code 113 = .ok (.ireturn, 1)) := by
  have h : List.drop 87 prog_10_method_52_code.data.toList = 0x84 :: _ := rfl
  refine ⟨zq_k_iinc 4 1 h rfl (zq_o_132 _) (by decide +kernel) (by decide +kernel), ?_⟩
  replace h := zq_nx3 (q := 90) h rfl
  refine ⟨zq_k_s2 167 (fun z => .goto z) (-70) h rfl (zq_o_167 _) (by decide +kernel), ?_⟩
  replace h := zq_nx3 (q := 93) h rfl
  refine ⟨zq_k_n 28 h rfl (zq_o_28 _), ?_⟩
  replace h := zq_nx1 (q := 94) h rfl
  refine ⟨zq_k_s1 16 (fun z => .bipush z) (-4) h rfl (zq_o_16 _) (by decide +kernel), ?_⟩
  replace h := zq_nx2 (q := 96) h rfl
  refine ⟨zq_k_s2 160 (fun z => .if_icmp .ne z) 8 h rfl (zq_o_160 _) (by decide +kernel), ?_⟩
  replace h := zq_nx3 (q := 99) h rfl
  refine ⟨zq_k_s1 16 (fun z => .bipush z) (-4) h rfl (zq_o_16 _) (by decide +kernel), ?_⟩
  replace h := zq_nx2 (q := 101) h rfl
  refine ⟨zq_k_s2 167 (fun z => .goto z) 12 h rfl (zq_o_167 _) (by decide +kernel), ?_⟩
  replace h := zq_nx3 (q := 104) h rfl
  refine ⟨zq_k_n 27 h rfl (zq_o_27 _), ?_⟩
  replace h := zq_nx1 (q := 105) h rfl
  refine ⟨zq_k_s2 154 (fun z => .ifCond .ne z) 7 h rfl (zq_o_154 _) (by decide +kernel), ?_⟩
  replace h := zq_nx3 (q := 108) h rfl
  refine ⟨zq_k_n 28 h rfl (zq_o_28 _), ?_⟩
  replace h := zq_nx1 (q := 109) h rfl
  refine ⟨zq_k_s2 167 (fun z => .goto z) 4 h rfl (zq_o_167 _) (by decide +kernel), ?_⟩
  replace h := zq_nx3 (q := 112) h rfl
  refine ⟨zq_k_n 29 h rfl (zq_o_29 _), ?_⟩
  replace h := zq_nx1 (q := 113) h rfl
  exact zq_k_n 172 h rfl (zq_o_172 _)
def f_M_most_86 (rec20 : Nat → Int32 → Int32 → Int32 → Int32 → mH → Option (Int32 × mH)) (b0 : Nat) (b1 : Int32) (b2 : Int32) (b4 : Int32) (s0 : Int32) (h : mH) : Option (Int32 × mH) :=
  rec20 b0 b1 b2 s0 (b4 + (1 : Int32)) h
set_option maxRecDepth 20000 in
theorem t_M_most_86 {sc : Nat × (Nat → Int32)} (rec20 : Nat → Int32 → Int32 → Int32 → Int32 → mH → Option (Int32 × mH)) (hrec20 : ∀ (b0 : Nat) (b1 : Int32) (b2 : Int32) (b3 : Int32) (b4 : Int32) (h : mH) (r : Int32) (h' : mH), rec20 b0 b1 b2 b3 b4 h = some (r, h') → G sc y_M_most prog_10_method_52_code 6 (some .int) 1 25 20 [(0, .ref b0), (1, .int b1), (2, .int b2), (3, .int b3), (4, .int b4)] [] h (some (.int r)) h') (b0 : Nat) (b1 : Int32) (b2 : Int32) (b4 : Int32) (s0 : Int32) (h : mH) (r : Int32) (h' : mH) (hf : f_M_most_86 rec20 b0 b1 b2 b4 s0 h = some (r, h')) : G sc y_M_most prog_10_method_52_code 6 (some .int) 1 25 86 [(0, .ref b0), (1, .int b1), (2, .int b2), (4, .int b4)] [.int s0] h (some (.int r)) h' := by
  unfold f_M_most_86 at hf
  refine g_istore_n (pc := 86) [(3, .int s0), (0, .ref b0), (1, .int b1), (2, .int b2), (4, .int b4)] dd_M_most_41.2.2.2.2.2.2.2.2.2.2.2.2.2.2.2.2.2.2.2.2.2.2.2 rfl (Nat.le_of_ble_eq_true rfl) rfl ?_
  refine g_iinc (pc := 87) 4 (b4 + (1 : Int32)) [(4, .int (b4 + (1 : Int32))), (3, .int s0), (0, .ref b0), (1, .int b1), (2, .int b2)] dd_M_most_87.1 rfl rfl (Nat.le_of_ble_eq_true rfl) rfl ?_
  refine g_goto (pc := 90) 20 dd_M_most_87.2.1 (by decide) ?_
  refine g_lv [2, 3, 4, 1, 0] rfl ?_
  exact hrec20 _ _ _ _ _ _ _ _  hf
def f_M_most_73 (rec20 : Nat → Int32 → Int32 → Int32 → Int32 → mH → Option (Int32 × mH)) (b0 : Nat) (b1 : Int32) (b3 : Int32) (b4 : Int32) (b5 : Int32) (s0 : Int32) (h : mH) : Option (Int32 × mH) :=
  if b5 ≤ b3 then
    f_M_most_86 rec20 b0 b1 s0 b4 b3 h
  else
    f_M_most_86 rec20 b0 b1 s0 b4 b5 h
set_option maxRecDepth 20000 in
theorem t_M_most_73 {sc : Nat × (Nat → Int32)} (rec20 : Nat → Int32 → Int32 → Int32 → Int32 → mH → Option (Int32 × mH)) (hrec20 : ∀ (b0 : Nat) (b1 : Int32) (b2 : Int32) (b3 : Int32) (b4 : Int32) (h : mH) (r : Int32) (h' : mH), rec20 b0 b1 b2 b3 b4 h = some (r, h') → G sc y_M_most prog_10_method_52_code 6 (some .int) 1 25 20 [(0, .ref b0), (1, .int b1), (2, .int b2), (3, .int b3), (4, .int b4)] [] h (some (.int r)) h') (b0 : Nat) (b1 : Int32) (b3 : Int32) (b4 : Int32) (b5 : Int32) (s0 : Int32) (h : mH) (r : Int32) (h' : mH) (hf : f_M_most_73 rec20 b0 b1 b3 b4 b5 s0 h = some (r, h')) : G sc y_M_most prog_10_method_52_code 6 (some .int) 1 25 73 [(0, .ref b0), (1, .int b1), (3, .int b3), (4, .int b4), (5, .int b5)] [.int s0] h (some (.int r)) h' := by
  unfold f_M_most_73 at hf
  refine g_istore_n (pc := 73) [(2, .int s0), (0, .ref b0), (1, .int b1), (3, .int b3), (4, .int b4), (5, .int b5)] dd_M_most_41.2.2.2.2.2.2.2.2.2.2.2.2.2.2.2.2.1 rfl (Nat.le_of_ble_eq_true rfl) rfl ?_
  refine g_iload (pc := 74) 5 dd_M_most_41.2.2.2.2.2.2.2.2.2.2.2.2.2.2.2.2.2.1 rfl ?_
  refine g_iload_n (pc := 76) 3 dd_M_most_41.2.2.2.2.2.2.2.2.2.2.2.2.2.2.2.2.2.2.1 rfl rfl ?_
  refine g_icmple (pc := 77) 85 dd_M_most_41.2.2.2.2.2.2.2.2.2.2.2.2.2.2.2.2.2.2.2.1 (by decide) (fun c29 => ?_) (fun c29 => ?_)
  · replace hf := (if_pos c29).symm.trans hf
    refine g_iload_n (pc := 85) 3 dd_M_most_41.2.2.2.2.2.2.2.2.2.2.2.2.2.2.2.2.2.2.2.2.2.2.1 rfl rfl ?_
    refine g_lv [1, 2, 0, 4] rfl ?_
    exact t_M_most_86 rec20 hrec20 _ _ _ _ _ _ _ _  hf
  · replace hf := (if_neg c29).symm.trans hf
    refine g_iload (pc := 80) 5 dd_M_most_41.2.2.2.2.2.2.2.2.2.2.2.2.2.2.2.2.2.2.2.2.1 rfl ?_
    refine g_goto (pc := 82) 86 dd_M_most_41.2.2.2.2.2.2.2.2.2.2.2.2.2.2.2.2.2.2.2.2.2.1 (by decide) ?_
    refine g_lv [1, 2, 0, 4] rfl ?_
    exact t_M_most_86 rec20 hrec20 _ _ _ _ _ _ _ _  hf
def f_M_most_59 (rec20 : Nat → Int32 → Int32 → Int32 → Int32 → mH → Option (Int32 × mH)) (b0 : Nat) (b1 : Int32) (b2 : Int32) (b3 : Int32) (b4 : Int32) (s0 : Int32) (h : mH) : Option (Int32 × mH) :=
  if s0 ≤ b3 then
    f_M_most_73 rec20 b0 b1 b3 b4 s0 b2 h
  else
    f_M_most_73 rec20 b0 b1 b3 b4 s0 b4 h
set_option maxRecDepth 20000 in
theorem t_M_most_59 {sc : Nat × (Nat → Int32)} (rec20 : Nat → Int32 → Int32 → Int32 → Int32 → mH → Option (Int32 × mH)) (hrec20 : ∀ (b0 : Nat) (b1 : Int32) (b2 : Int32) (b3 : Int32) (b4 : Int32) (h : mH) (r : Int32) (h' : mH), rec20 b0 b1 b2 b3 b4 h = some (r, h') → G sc y_M_most prog_10_method_52_code 6 (some .int) 1 25 20 [(0, .ref b0), (1, .int b1), (2, .int b2), (3, .int b3), (4, .int b4)] [] h (some (.int r)) h') (b0 : Nat) (b1 : Int32) (b2 : Int32) (b3 : Int32) (b4 : Int32) (s0 : Int32) (h : mH) (r : Int32) (h' : mH) (hf : f_M_most_59 rec20 b0 b1 b2 b3 b4 s0 h = some (r, h')) : G sc y_M_most prog_10_method_52_code 6 (some .int) 1 25 59 [(0, .ref b0), (1, .int b1), (2, .int b2), (3, .int b3), (4, .int b4)] [.int s0] h (some (.int r)) h' := by
  unfold f_M_most_59 at hf
  refine g_istore (pc := 59) [(5, .int s0), (0, .ref b0), (1, .int b1), (2, .int b2), (3, .int b3), (4, .int b4)] dd_M_most_41.2.2.2.2.2.2.2.2.2.1 (Nat.le_of_ble_eq_true rfl) rfl ?_
  refine g_iload (pc := 61) 0 dd_M_most_41.2.2.2.2.2.2.2.2.2.2.1 rfl ?_
  refine g_iload_n (pc := 63) 4 dd_M_most_41.2.2.2.2.2.2.2.2.2.2.2.1 rfl rfl ?_
  refine g_icmple (pc := 64) 72 dd_M_most_41.2.2.2.2.2.2.2.2.2.2.2.2.1 (by decide) (fun c28 => ?_) (fun c28 => ?_)
  · replace hf := (if_pos c28).symm.trans hf
    refine g_iload_n (pc := 72) 3 dd_M_most_41.2.2.2.2.2.2.2.2.2.2.2.2.2.2.2.1 rfl rfl ?_
    refine g_lv [1, 2, 4, 5, 0] rfl ?_
    exact t_M_most_73 rec20 hrec20 _ _ _ _ _ _ _ _ _  hf
  · replace hf := (if_neg c28).symm.trans hf
    refine g_iload (pc := 67) 5 dd_M_most_41.2.2.2.2.2.2.2.2.2.2.2.2.2.1 rfl ?_
    refine g_goto (pc := 69) 73 dd_M_most_41.2.2.2.2.2.2.2.2.2.2.2.2.2.2.1 (by decide) ?_
    refine g_lv [1, 2, 4, 5, 0] rfl ?_
    exact t_M_most_73 rec20 hrec20 _ _ _ _ _ _ _ _ _  hf
def f_M_most_20b (rec20 : Nat → Int32 → Int32 → Int32 → Int32 → mH → Option (Int32 × mH)) (b0 : Nat) (b1 : Int32) (b2 : Int32) (b3 : Int32) (b4 : Int32) (h : mH) : Option (Int32 × mH) :=
  bd1 (gI h b0 8 2) fun x5 =>
  if x5 ≤ b4 then
    if b2 = ((-4) : Int32) then
      some (((-4) : Int32), h)
    else
      if b1 = 0 then
        some (b2, h)
      else
        some (b3, h)
  else
    bd1 (kC h b0 8) fun _ =>
    bd2 (f_M_doesStand b0 b4 h) fun x13 h11 =>
    if x13 = 0 then
      f_M_most_59 rec20 b0 b1 b2 b3 b4 (0 : Int32) h11
    else
      bd1 (kC h11 b0 8) fun _ =>
      bd2 (f_M_chainOf b0 b4 h11) fun x18 h16 =>
      bd1 (gR h16 b0 8 0) fun x19 =>
      bd1 (aI h16 0 x19 (10 : Int32)) fun x21 =>
      bd2 (f_M_bitsOf (x18 &&& x21) h16) fun x25 h23 =>
      f_M_most_59 rec20 b0 b1 b2 b3 b4 x25 h23
set_option maxRecDepth 20000 in
theorem t_M_most_20b {sc : Nat × (Nat → Int32)} (rec20 : Nat → Int32 → Int32 → Int32 → Int32 → mH → Option (Int32 × mH)) (hrec20 : ∀ (b0 : Nat) (b1 : Int32) (b2 : Int32) (b3 : Int32) (b4 : Int32) (h : mH) (r : Int32) (h' : mH), rec20 b0 b1 b2 b3 b4 h = some (r, h') → G sc y_M_most prog_10_method_52_code 6 (some .int) 1 25 20 [(0, .ref b0), (1, .int b1), (2, .int b2), (3, .int b3), (4, .int b4)] [] h (some (.int r)) h') (b0 : Nat) (b1 : Int32) (b2 : Int32) (b3 : Int32) (b4 : Int32) (h : mH) (r : Int32) (h' : mH) (hf : f_M_most_20b rec20 b0 b1 b2 b3 b4 h = some (r, h')) : G sc y_M_most prog_10_method_52_code 6 (some .int) 1 25 20 [(0, .ref b0), (1, .int b1), (2, .int b2), (3, .int b3), (4, .int b4)] [] h (some (.int r)) h' := by
  unfold f_M_most_20b at hf
  refine g_iload (pc := 20) 4 dd_M_most_0.2.2.2.2.2.2.2.2.2.2.2.2.2.2.1 rfl ?_
  refine g_aload_n (pc := 22) 0 dd_M_most_0.2.2.2.2.2.2.2.2.2.2.2.2.2.2.2.1 rfl rfl ?_
  obtain ⟨x5, e6, hf⟩ := bd1_e hf
  refine g_get (pc := 23) (ci := 8) (kk := 2) dd_M_most_0.2.2.2.2.2.2.2.2.2.2.2.2.2.2.2.2.1 rfl in_M (by decide) wd_940 (gI_spec e6) ?_
  refine g_icmpge (pc := 26) 93 dd_M_most_0.2.2.2.2.2.2.2.2.2.2.2.2.2.2.2.2.2.1 (by decide) (fun c27 => ?_) (fun c27 => ?_)
  · replace hf := (if_pos c27).symm.trans hf
    refine g_iload_n (pc := 93) 2 dd_M_most_87.2.2.1 rfl rfl ?_
    refine g_bipush (pc := 94) ((-4) : Int32) dd_M_most_87.2.2.2.1 (by decide) ?_
    refine g_icmpne (pc := 96) 104 dd_M_most_87.2.2.2.2.1 (by decide) (fun c8 => ?_) (fun c8 => ?_)
    · replace hf := (if_neg c8).symm.trans hf
      refine g_iload_n (pc := 104) 1 dd_M_most_87.2.2.2.2.2.2.2.1 rfl rfl ?_
      refine g_ifne (pc := 105) 112 dd_M_most_87.2.2.2.2.2.2.2.2.1 (by decide) (fun c7 => ?_) (fun c7 => ?_)
      · replace hf := (if_neg c7).symm.trans hf
        refine g_iload_n (pc := 112) 3 dd_M_most_87.2.2.2.2.2.2.2.2.2.2.2.1 rfl rfl ?_
        obtain ⟨rfl, rfl⟩ := ret2 hf
        exact g_iret (pc := 113) rfl dd_M_most_87.2.2.2.2.2.2.2.2.2.2.2.2
      · replace hf := (if_pos c7).symm.trans hf
        refine g_iload_n (pc := 108) 2 dd_M_most_87.2.2.2.2.2.2.2.2.2.1 rfl rfl ?_
        refine g_goto (pc := 109) 113 dd_M_most_87.2.2.2.2.2.2.2.2.2.2.1 (by decide) ?_
        obtain ⟨rfl, rfl⟩ := ret2 hf
        exact g_iret (pc := 113) rfl dd_M_most_87.2.2.2.2.2.2.2.2.2.2.2.2
    · replace hf := (if_pos c8).symm.trans hf
      refine g_bipush (pc := 99) ((-4) : Int32) dd_M_most_87.2.2.2.2.2.1 (by decide) ?_
      refine g_goto (pc := 101) 113 dd_M_most_87.2.2.2.2.2.2.1 (by decide) ?_
      obtain ⟨rfl, rfl⟩ := ret2 hf
      exact g_iret (pc := 113) rfl dd_M_most_87.2.2.2.2.2.2.2.2.2.2.2.2
  · replace hf := (if_neg c27).symm.trans hf
    refine g_aload_n (pc := 29) 0 dd_M_most_0.2.2.2.2.2.2.2.2.2.2.2.2.2.2.2.2.2.2.1 rfl rfl ?_
    refine g_iload (pc := 30) 4 dd_M_most_0.2.2.2.2.2.2.2.2.2.2.2.2.2.2.2.2.2.2.2.1 rfl ?_
    obtain ⟨u10, e9, hf⟩ := bd1_e hf
    obtain ⟨x13, h11, e12, hf⟩ := bd2_e hf
    refine g_callV (pc := 32) (ci := 8) [.int b4] (site_of si_M_doesStand (by decide) (by decide)) wd_1144 wd_1146 wp_46 dd_M_most_0.2.2.2.2.2.2.2.2.2.2.2.2.2.2.2.2.2.2.2.2.1 rfl e9 (Nat.le_of_ble_eq_true rfl) (fun z => absurd z si_na_M_doesStand) (fun z => absurd z si_na_M_doesStand) (fun z => absurd z si_na_M_doesStand) (c_M_doesStand e12) rfl ?_
    refine g_st [.int x13] rfl ?_
    refine g_ifeq (pc := 35) 58 dd_M_most_0.2.2.2.2.2.2.2.2.2.2.2.2.2.2.2.2.2.2.2.2.2.1 (by decide) (fun c26 => ?_) (fun c26 => ?_)
    · replace hf := (if_pos c26).symm.trans hf
      refine g_iconst (pc := 58) (0 : Int32) dd_M_most_41.2.2.2.2.2.2.2.2.1 (by decide) ?_
      refine g_lv [0, 1, 2, 3, 4] rfl ?_
      exact t_M_most_59 rec20 hrec20 _ _ _ _ _ _ _ _ _  hf
    · replace hf := (if_neg c26).symm.trans hf
      refine g_aload_n (pc := 38) 0 dd_M_most_0.2.2.2.2.2.2.2.2.2.2.2.2.2.2.2.2.2.2.2.2.2.2.1 rfl rfl ?_
      refine g_iload (pc := 39) 4 dd_M_most_0.2.2.2.2.2.2.2.2.2.2.2.2.2.2.2.2.2.2.2.2.2.2.2 rfl ?_
      obtain ⟨u15, e14, hf⟩ := bd1_e hf
      obtain ⟨x18, h16, e17, hf⟩ := bd2_e hf
      refine g_callV (pc := 41) (ci := 8) [.int b4] (site_of si_M_chainOf (by decide) (by decide)) wd_1152 wd_1154 wp_48 dd_M_most_41.1 rfl e14 (Nat.le_of_ble_eq_true rfl) (fun z => absurd z si_na_M_chainOf) (fun z => absurd z si_na_M_chainOf) (fun z => absurd z si_na_M_chainOf) (c_M_chainOf e17) rfl ?_
      refine g_st [.int x18] rfl ?_
      refine g_aload_n (pc := 44) 0 dd_M_most_41.2.1 rfl rfl ?_
      obtain ⟨x19, e20, hf⟩ := bd1_e hf
      refine g_get (pc := 45) (ci := 8) (kk := 0) dd_M_most_41.2.2.1 rfl in_M (by decide) wd_938 (gR_spec e20) ?_
      refine g_bipush (pc := 48) (10 : Int32) dd_M_most_41.2.2.2.1 (by decide) ?_
      obtain ⟨x21, e22, hf⟩ := bd1_e hf
      refine g_iald (pc := 50) dd_M_most_41.2.2.2.2.1 e22 ?_
      refine g_iand (pc := 51) dd_M_most_41.2.2.2.2.2.1 ?_
      obtain ⟨x25, h23, e24, hf⟩ := bd2_e hf
      refine g_callS (pc := 52) [.int (x18 &&& x21)] (site_of si_M_bitsOf (by decide) (by decide)) wd_1230 wd_1231 dd_M_most_41.2.2.2.2.2.2.1 (Nat.le_of_ble_eq_true rfl) (fun z => absurd z si_na_M_bitsOf) (fun z => absurd z si_na_M_bitsOf) (fun z => absurd z si_na_M_bitsOf) (c_M_bitsOf e24) rfl ?_
      refine g_st [.int x25] rfl ?_
      refine g_goto (pc := 55) 59 dd_M_most_41.2.2.2.2.2.2.2.1 (by decide) ?_
      refine g_lv [0, 1, 2, 3, 4] rfl ?_
      exact t_M_most_59 rec20 hrec20 _ _ _ _ _ _ _ _ _  hf
def f_M_most_20  : Nat → Nat → Int32 → Int32 → Int32 → Int32 → mH → Option (Int32 × mH)
  | 0 => fun _ _ _ _ _ _ => none
  | n + 1 => f_M_most_20b  (f_M_most_20  n)
theorem t_M_most_20 {sc : Nat × (Nat → Int32)}  : ∀ (n : Nat) (b0 : Nat) (b1 : Int32) (b2 : Int32) (b3 : Int32) (b4 : Int32) (h : mH) (r : Int32) (h' : mH) (hf : f_M_most_20  n b0 b1 b2 b3 b4 h = some (r, h')), G sc y_M_most prog_10_method_52_code 6 (some .int) 1 25 20 [(0, .ref b0), (1, .int b1), (2, .int b2), (3, .int b3), (4, .int b4)] [] h (some (.int r)) h'
  | 0, _, _, _, _, _, _, _, _, hf => by cases hf
  | n + 1, _, _, _, _, _, _, _, _, hf => t_M_most_20b  (f_M_most_20  n) (t_M_most_20  n) _ _ _ _ _ _ _ _ hf
def f_M_most_0  (a0 : Nat) (a1 : Int32) (h : mH) : Option (Int32 × mH) :=
  bd2 (f_M_in a1.toInt64 (0 : Int64) (1 : Int64) h) fun x3 h1 =>
  if x3 = 0 then
    some (((-1) : Int32), h1)
  else
    f_M_most_20  FU a0 a1 ((-4) : Int32) (0 : Int32) (0 : Int32) h1
set_option maxRecDepth 20000 in
theorem t_M_most_0 {sc : Nat × (Nat → Int32)}  (a0 : Nat) (a1 : Int32) (h : mH) (r : Int32) (h' : mH) (hf : f_M_most_0  a0 a1 h = some (r, h')) : G sc y_M_most prog_10_method_52_code 6 (some .int) 1 25 0 [(0, .ref a0), (1, .int a1)] [] h (some (.int r)) h' := by
  unfold f_M_most_0 at hf
  refine g_iload_n (pc := 0) 1 dd_M_most_0.1 rfl rfl ?_
  refine g_i2l (pc := 1) dd_M_most_0.2.1 ?_
  refine g_lconst (pc := 2) (0 : Int64) dd_M_most_0.2.2.1 (by decide) ?_
  refine g_lconst (pc := 3) (1 : Int64) dd_M_most_0.2.2.2.1 (by decide) ?_
  obtain ⟨x3, h1, e2, hf⟩ := bd2_e hf
  refine g_callS (pc := 4) [.long a1.toInt64, .long (0 : Int64), .long (1 : Int64)] (site_of si_M_in (by decide) (by decide)) wd_1061 wd_1062 dd_M_most_0.2.2.2.2.1 (Nat.le_of_ble_eq_true rfl) (fun z => absurd z si_na_M_in) (fun z => absurd z si_na_M_in) (fun z => absurd z si_na_M_in) (c_M_in e2) rfl ?_
  refine g_st [.int x3] rfl ?_
  refine g_ifne (pc := 7) 12 dd_M_most_0.2.2.2.2.2.1 (by decide) (fun c4 => ?_) (fun c4 => ?_)
  · replace hf := (if_neg c4).symm.trans hf
    refine g_bipush (pc := 12) ((-4) : Int32) dd_M_most_0.2.2.2.2.2.2.2.2.1 (by decide) ?_
    refine g_istore_n (pc := 14) [(2, .int ((-4) : Int32)), (0, .ref a0), (1, .int a1)] dd_M_most_0.2.2.2.2.2.2.2.2.2.1 rfl (Nat.le_of_ble_eq_true rfl) rfl ?_
    refine g_iconst (pc := 15) (0 : Int32) dd_M_most_0.2.2.2.2.2.2.2.2.2.2.1 (by decide) ?_
    refine g_istore_n (pc := 16) [(3, .int (0 : Int32)), (2, .int ((-4) : Int32)), (0, .ref a0), (1, .int a1)] dd_M_most_0.2.2.2.2.2.2.2.2.2.2.2.1 rfl (Nat.le_of_ble_eq_true rfl) rfl ?_
    refine g_iconst (pc := 17) (0 : Int32) dd_M_most_0.2.2.2.2.2.2.2.2.2.2.2.2.1 (by decide) ?_
    refine g_istore (pc := 18) [(4, .int (0 : Int32)), (3, .int (0 : Int32)), (2, .int ((-4) : Int32)), (0, .ref a0), (1, .int a1)] dd_M_most_0.2.2.2.2.2.2.2.2.2.2.2.2.2.1 (Nat.le_of_ble_eq_true rfl) rfl ?_
    refine g_lv [3, 4, 2, 1, 0] rfl ?_
    exact t_M_most_20  FU _ _ _ _ _ _ _ _  hf
  · replace hf := (if_pos c4).symm.trans hf
    refine g_iconst (pc := 10) ((-1) : Int32) dd_M_most_0.2.2.2.2.2.2.1 (by decide) ?_
    obtain ⟨rfl, rfl⟩ := ret2 hf
    exact g_iret (pc := 11) rfl dd_M_most_0.2.2.2.2.2.2.2.1
def f_M_most (a0 : Nat) (a1 : Int32) (h : mH) : Option (Int32 × mH) := f_M_most_0 a0 a1 h
theorem c_M_most {sc : Nat × (Nat → Int32)} {a0 : Nat} {a1 : Int32} {h : mH} {r : Int32} {h' : mH} (hf : f_M_most a0 a1 h = some (r, h')) : MM sc y_M_most prog_10_method_52_code 6 (some .int) 1 25 [.ref a0, .int a1] h (some (.int r)) h' :=
  mm_of_G si_pn_M (Nat.le_of_ble_eq_true rfl) (t_M_most_0 _ _ _ _ _ hf)
/-! M startsRota (I)V -/
set_option maxRecDepth 100000 in
theorem dd_M_startsRota_0 : (decode prog_10_method_58_code 0 = .ok (.iconst 0, 1)) ∧ (decode prog_10_method_58_code 1 = .ok (.istore_n 2, 1)) ∧ (decode prog_10_method_58_code 2 = .ok (.iload_n 2, 1)) ∧ (decode prog_10_method_58_code 3 = .ok (.aload_n 0, 1)) ∧ (decode prog_10_method_58_code 4 = .ok (.getfield 106, 3)) ∧ (decode prog_10_method_58_code 7 = .ok (.if_icmp .ge 33, 3)) ∧ (decode prog_10_method_58_code 10 = .ok (.aload_n 0, 1)) ∧ (decode prog_10_method_58_code 11 = .ok (.getfield 56, 3)) ∧ (decode prog_10_method_58_code 14 = .ok (.iload_n 2, 1)) ∧ (decode prog_10_method_58_code 15 = .ok (.iload_n 1, 1)) ∧ (decode prog_10_method_58_code 16 = .ok (.iload_n 2, 1)) ∧ (decode prog_10_method_58_code 17 = .ok (.ishr, 1)) ∧ (decode prog_10_method_58_code 18 = .ok (.iconst 1, 1)) ∧ (decode prog_10_method_58_code 19 = .ok (.iand, 1)) ∧ (decode prog_10_method_58_code 20 = .ok (.iconst 1, 1)) ∧ (decode prog_10_method_58_code 21 = .ok (.if_icmp .ne 11, 3)) ∧ (decode prog_10_method_58_code 24 = .ok (.aload_n 0, 1)) ∧ (decode prog_10_method_58_code 25 = .ok (.iload_n 2, 1)) ∧ (decode prog_10_method_58_code 26 = .ok (.invokevirtual 204, 3)) ∧ (decode prog_10_method_58_code 29 = .ok (.goto 4, 3)) ∧ (decode prog_10_method_58_code 32 = .ok (.iconst 0, 1)) ∧ (decode prog_10_method_58_code 33 = .ok (.iastore, 1)) ∧ (decode prog_10_method_58_code 34 = .ok (.iinc 2 1, 3)) ∧ (decode prog_10_method_58_code 37 = .ok (.goto (-35), 3)) := by
  have h : List.drop 0 prog_10_method_58_code.data.toList = 0x03 :: _ := rfl
  refine ⟨zq_k_n 3 h rfl (zq_o_3 _), ?_⟩
  replace h := zq_nx1 (q := 1) h rfl
  refine ⟨zq_k_n 61 h rfl (zq_o_61 _), ?_⟩
  replace h := zq_nx1 (q := 2) h rfl
  refine ⟨zq_k_n 28 h rfl (zq_o_28 _), ?_⟩
  replace h := zq_nx1 (q := 3) h rfl
  refine ⟨zq_k_n 42 h rfl (zq_o_42 _), ?_⟩
  replace h := zq_nx1 (q := 4) h rfl
  refine ⟨zq_k_u2 180 (fun z => .getfield z) 106 h rfl (zq_o_180 _) (by decide +kernel), ?_⟩
  replace h := zq_nx3 (q := 7) h rfl
  refine ⟨zq_k_s2 162 (fun z => .if_icmp .ge z) 33 h rfl (zq_o_162 _) (by decide +kernel), ?_⟩
  replace h := zq_nx3 (q := 10) h rfl
  refine ⟨zq_k_n 42 h rfl (zq_o_42 _), ?_⟩
  replace h := zq_nx1 (q := 11) h rfl
  refine ⟨zq_k_u2 180 (fun z => .getfield z) 56 h rfl (zq_o_180 _) (by decide +kernel), ?_⟩
  replace h := zq_nx3 (q := 14) h rfl
  refine ⟨zq_k_n 28 h rfl (zq_o_28 _), ?_⟩
  replace h := zq_nx1 (q := 15) h rfl
  refine ⟨zq_k_n 27 h rfl (zq_o_27 _), ?_⟩
  replace h := zq_nx1 (q := 16) h rfl
  refine ⟨zq_k_n 28 h rfl (zq_o_28 _), ?_⟩
  replace h := zq_nx1 (q := 17) h rfl
  refine ⟨zq_k_n 122 h rfl (zq_o_122 _), ?_⟩
  replace h := zq_nx1 (q := 18) h rfl
  refine ⟨zq_k_n 4 h rfl (zq_o_4 _), ?_⟩
  replace h := zq_nx1 (q := 19) h rfl
  refine ⟨zq_k_n 126 h rfl (zq_o_126 _), ?_⟩
  replace h := zq_nx1 (q := 20) h rfl
  refine ⟨zq_k_n 4 h rfl (zq_o_4 _), ?_⟩
  replace h := zq_nx1 (q := 21) h rfl
  refine ⟨zq_k_s2 160 (fun z => .if_icmp .ne z) 11 h rfl (zq_o_160 _) (by decide +kernel), ?_⟩
  replace h := zq_nx3 (q := 24) h rfl
  refine ⟨zq_k_n 42 h rfl (zq_o_42 _), ?_⟩
  replace h := zq_nx1 (q := 25) h rfl
  refine ⟨zq_k_n 28 h rfl (zq_o_28 _), ?_⟩
  replace h := zq_nx1 (q := 26) h rfl
  refine ⟨zq_k_u2 182 (fun z => .invokevirtual z) 204 h rfl (zq_o_182 _) (by decide +kernel), ?_⟩
  replace h := zq_nx3 (q := 29) h rfl
  refine ⟨zq_k_s2 167 (fun z => .goto z) 4 h rfl (zq_o_167 _) (by decide +kernel), ?_⟩
  replace h := zq_nx3 (q := 32) h rfl
  refine ⟨zq_k_n 3 h rfl (zq_o_3 _), ?_⟩
  replace h := zq_nx1 (q := 33) h rfl
  refine ⟨zq_k_n 79 h rfl (zq_o_79 _), ?_⟩
  replace h := zq_nx1 (q := 34) h rfl
  refine ⟨zq_k_iinc 2 1 h rfl (zq_o_132 _) (by decide +kernel) (by decide +kernel), ?_⟩
  replace h := zq_nx3 (q := 37) h rfl
  exact zq_k_s2 167 (fun z => .goto z) (-35) h rfl (zq_o_167 _) (by decide +kernel)
set_option maxRecDepth 100000 in
theorem dd_M_startsRota_40 : (decode prog_10_method_58_code 40 = .ok (.iconst 0, 1)) ∧ (decode prog_10_method_58_code 41 = .ok (.istore_n 2, 1)) ∧ (decode prog_10_method_58_code 42 = .ok (.iload_n 2, 1)) ∧ (decode prog_10_method_58_code 43 = .ok (.iconst 3, 1)) ∧ (decode prog_10_method_58_code 44 = .ok (.if_icmp .ge 32, 3)) ∧ (decode prog_10_method_58_code 47 = .ok (.aload_n 0, 1)) ∧ (decode prog_10_method_58_code 48 = .ok (.getfield 59, 3)) ∧ (decode prog_10_method_58_code 51 = .ok (.iload_n 2, 1)) ∧ (decode prog_10_method_58_code 52 = .ok (.iload_n 2, 1)) ∧ (decode prog_10_method_58_code 53 = .ok (.aload_n 0, 1)) ∧ (decode prog_10_method_58_code 54 = .ok (.getfield 109, 3)) ∧ (decode prog_10_method_58_code 57 = .ok (.if_icmp .ge 11, 3)) ∧ (decode prog_10_method_58_code 60 = .ok (.aload_n 0, 1)) ∧ (decode prog_10_method_58_code 61 = .ok (.iload_n 2, 1)) ∧ (decode prog_10_method_58_code 62 = .ok (.invokevirtual 201, 3)) ∧ (decode prog_10_method_58_code 65 = .ok (.goto 4, 3)) ∧ (decode prog_10_method_58_code 68 = .ok (.iconst 0, 1)) ∧ (decode prog_10_method_58_code 69 = .ok (.iastore, 1)) ∧ (decode prog_10_method_58_code 70 = .ok (.iinc 2 1, 3)) ∧ (decode prog_10_method_58_code 73 = .ok (.goto (-31), 3)) ∧ (decode prog_10_method_58_code 76 = .ok (.return_, 1)) := by
  have h : List.drop 40 prog_10_method_58_code.data.toList = 0x03 :: _ := rfl
  refine ⟨zq_k_n 3 h rfl (zq_o_3 _), ?_⟩
  replace h := zq_nx1 (q := 41) h rfl
  refine ⟨zq_k_n 61 h rfl (zq_o_61 _), ?_⟩
  replace h := zq_nx1 (q := 42) h rfl
  refine ⟨zq_k_n 28 h rfl (zq_o_28 _), ?_⟩
  replace h := zq_nx1 (q := 43) h rfl
  refine ⟨zq_k_n 6 h rfl (zq_o_6 _), ?_⟩
  replace h := zq_nx1 (q := 44) h rfl
  refine ⟨zq_k_s2 162 (fun z => .if_icmp .ge z) 32 h rfl (zq_o_162 _) (by decide +kernel), ?_⟩
  replace h := zq_nx3 (q := 47) h rfl
  refine ⟨zq_k_n 42 h rfl (zq_o_42 _), ?_⟩
  replace h := zq_nx1 (q := 48) h rfl
  refine ⟨zq_k_u2 180 (fun z => .getfield z) 59 h rfl (zq_o_180 _) (by decide +kernel), ?_⟩
  replace h := zq_nx3 (q := 51) h rfl
  refine ⟨zq_k_n 28 h rfl (zq_o_28 _), ?_⟩
  replace h := zq_nx1 (q := 52) h rfl
  refine ⟨zq_k_n 28 h rfl (zq_o_28 _), ?_⟩
  replace h := zq_nx1 (q := 53) h rfl
  refine ⟨zq_k_n 42 h rfl (zq_o_42 _), ?_⟩
  replace h := zq_nx1 (q := 54) h rfl
  refine ⟨zq_k_u2 180 (fun z => .getfield z) 109 h rfl (zq_o_180 _) (by decide +kernel), ?_⟩
  replace h := zq_nx3 (q := 57) h rfl
  refine ⟨zq_k_s2 162 (fun z => .if_icmp .ge z) 11 h rfl (zq_o_162 _) (by decide +kernel), ?_⟩
  replace h := zq_nx3 (q := 60) h rfl
  refine ⟨zq_k_n 42 h rfl (zq_o_42 _), ?_⟩
  replace h := zq_nx1 (q := 61) h rfl
  refine ⟨zq_k_n 28 h rfl (zq_o_28 _), ?_⟩
  replace h := zq_nx1 (q := 62) h rfl
  refine ⟨zq_k_u2 182 (fun z => .invokevirtual z) 201 h rfl (zq_o_182 _) (by decide +kernel), ?_⟩
  replace h := zq_nx3 (q := 65) h rfl
  refine ⟨zq_k_s2 167 (fun z => .goto z) 4 h rfl (zq_o_167 _) (by decide +kernel), ?_⟩
  replace h := zq_nx3 (q := 68) h rfl
  refine ⟨zq_k_n 3 h rfl (zq_o_3 _), ?_⟩
  replace h := zq_nx1 (q := 69) h rfl
  refine ⟨zq_k_n 79 h rfl (zq_o_79 _), ?_⟩
  replace h := zq_nx1 (q := 70) h rfl
  refine ⟨zq_k_iinc 2 1 h rfl (zq_o_132 _) (by decide +kernel) (by decide +kernel), ?_⟩
  replace h := zq_nx3 (q := 73) h rfl
  refine ⟨zq_k_s2 167 (fun z => .goto z) (-31) h rfl (zq_o_167 _) (by decide +kernel), ?_⟩
  replace h := zq_nx3 (q := 76) h rfl
  exact zq_k_n 177 h rfl (zq_o_177 _)
def f_M_startsRota_69 (rec42 : Nat → Int32 → mH → Option mH) (b0 : Nat) (b2 : Int32) (s0 : Nat) (s1 : Int32) (s2 : Int32) (h : mH) : Option mH :=
  bd1 (sI h 0 s0 s1 s2) fun h25 =>
  rec42 b0 (b2 + (1 : Int32)) h25
set_option maxRecDepth 20000 in
theorem t_M_startsRota_69 {sc : Nat × (Nat → Int32)} (rec42 : Nat → Int32 → mH → Option mH) (hrec42 : ∀ (b0 : Nat) (b2 : Int32) (h : mH) (h' : mH), rec42 b0 b2 h = some h' → G sc y_M_startsRota prog_10_method_58_code 3 none 3 67 42 [(0, .ref b0), (2, .int b2)] [] h none h') (b0 : Nat) (b2 : Int32) (s0 : Nat) (s1 : Int32) (s2 : Int32) (h : mH) (h' : mH) (hf : f_M_startsRota_69 rec42 b0 b2 s0 s1 s2 h = some h') : G sc y_M_startsRota prog_10_method_58_code 3 none 3 67 69 [(0, .ref b0), (2, .int b2)] [.int s2, .int s1, .ref s0] h none h' := by
  unfold f_M_startsRota_69 at hf
  obtain ⟨h25, e26, hf⟩ := bd1_e hf
  refine g_iast (pc := 69) dd_M_startsRota_40.2.2.2.2.2.2.2.2.2.2.2.2.2.2.2.2.2.1 e26 ?_
  refine g_iinc (pc := 70) 1 (b2 + (1 : Int32)) [(2, .int (b2 + (1 : Int32))), (0, .ref b0)] dd_M_startsRota_40.2.2.2.2.2.2.2.2.2.2.2.2.2.2.2.2.2.2.1 rfl rfl (Nat.le_of_ble_eq_true rfl) rfl ?_
  refine g_goto (pc := 73) 42 dd_M_startsRota_40.2.2.2.2.2.2.2.2.2.2.2.2.2.2.2.2.2.2.2.1 (by decide) ?_
  refine g_lv [1, 0] rfl ?_
  exact hrec42 _ _ _ _  hf
def f_M_startsRota_42b (rec42 : Nat → Int32 → mH → Option mH) (b0 : Nat) (b2 : Int32) (h : mH) : Option mH :=
  if (3 : Int32) ≤ b2 then
    some h
  else
    bd1 (gR h b0 8 29) fun x14 =>
    bd1 (gI h b0 8 3) fun x16 =>
    if x16 ≤ b2 then
      f_M_startsRota_69 rec42 b0 b2 x14 b2 (0 : Int32) h
    else
      bd1 (kC h b0 8) fun _ =>
      bd2 (f_M_timeLeft b0 b2 h) fun x22 h20 =>
      f_M_startsRota_69 rec42 b0 b2 x14 b2 x22 h20
set_option maxRecDepth 20000 in
theorem t_M_startsRota_42b {sc : Nat × (Nat → Int32)} (rec42 : Nat → Int32 → mH → Option mH) (hrec42 : ∀ (b0 : Nat) (b2 : Int32) (h : mH) (h' : mH), rec42 b0 b2 h = some h' → G sc y_M_startsRota prog_10_method_58_code 3 none 3 67 42 [(0, .ref b0), (2, .int b2)] [] h none h') (b0 : Nat) (b2 : Int32) (h : mH) (h' : mH) (hf : f_M_startsRota_42b rec42 b0 b2 h = some h') : G sc y_M_startsRota prog_10_method_58_code 3 none 3 67 42 [(0, .ref b0), (2, .int b2)] [] h none h' := by
  unfold f_M_startsRota_42b at hf
  refine g_iload_n (pc := 42) 1 dd_M_startsRota_40.2.2.1 rfl rfl ?_
  refine g_iconst (pc := 43) (3 : Int32) dd_M_startsRota_40.2.2.2.1 (by decide) ?_
  refine g_icmpge (pc := 44) 76 dd_M_startsRota_40.2.2.2.2.1 (by decide) (fun c24 => ?_) (fun c24 => ?_)
  · replace hf := (if_pos c24).symm.trans hf
    obtain rfl := ret1 hf
    exact g_vret (pc := 76) rfl dd_M_startsRota_40.2.2.2.2.2.2.2.2.2.2.2.2.2.2.2.2.2.2.2.2
  · replace hf := (if_neg c24).symm.trans hf
    refine g_aload_n (pc := 47) 0 dd_M_startsRota_40.2.2.2.2.2.1 rfl rfl ?_
    obtain ⟨x14, e15, hf⟩ := bd1_e hf
    refine g_get (pc := 48) (ci := 8) (kk := 29) dd_M_startsRota_40.2.2.2.2.2.2.1 rfl in_M (by decide) wd_967 (gR_spec e15) ?_
    refine g_iload_n (pc := 51) 1 dd_M_startsRota_40.2.2.2.2.2.2.2.1 rfl rfl ?_
    refine g_iload_n (pc := 52) 1 dd_M_startsRota_40.2.2.2.2.2.2.2.2.1 rfl rfl ?_
    refine g_aload_n (pc := 53) 0 dd_M_startsRota_40.2.2.2.2.2.2.2.2.2.1 rfl rfl ?_
    obtain ⟨x16, e17, hf⟩ := bd1_e hf
    refine g_get (pc := 54) (ci := 8) (kk := 3) dd_M_startsRota_40.2.2.2.2.2.2.2.2.2.2.1 rfl in_M (by decide) wd_941 (gI_spec e17) ?_
    refine g_icmpge (pc := 57) 68 dd_M_startsRota_40.2.2.2.2.2.2.2.2.2.2.2.1 (by decide) (fun c23 => ?_) (fun c23 => ?_)
    · replace hf := (if_pos c23).symm.trans hf
      refine g_iconst (pc := 68) (0 : Int32) dd_M_startsRota_40.2.2.2.2.2.2.2.2.2.2.2.2.2.2.2.2.1 (by decide) ?_
      refine g_lv [0, 1] rfl ?_
      exact t_M_startsRota_69 rec42 hrec42 _ _ _ _ _ _ _  hf
    · replace hf := (if_neg c23).symm.trans hf
      refine g_aload_n (pc := 60) 0 dd_M_startsRota_40.2.2.2.2.2.2.2.2.2.2.2.2.1 rfl rfl ?_
      refine g_iload_n (pc := 61) 1 dd_M_startsRota_40.2.2.2.2.2.2.2.2.2.2.2.2.2.1 rfl rfl ?_
      obtain ⟨u19, e18, hf⟩ := bd1_e hf
      obtain ⟨x22, h20, e21, hf⟩ := bd2_e hf
      refine g_callV (pc := 62) (ci := 8) [.int b2] (site_of si_M_timeLeft (by decide) (by decide)) wd_1172 wd_1174 wp_52 dd_M_startsRota_40.2.2.2.2.2.2.2.2.2.2.2.2.2.2.1 rfl e18 (Nat.le_of_ble_eq_true rfl) (fun z => absurd z si_na_M_timeLeft) (fun z => absurd z si_na_M_timeLeft) (fun z => absurd z si_na_M_timeLeft) (c_M_timeLeft e21) rfl ?_
      refine g_st [.int x22, .int b2, .ref x14] rfl ?_
      refine g_goto (pc := 65) 69 dd_M_startsRota_40.2.2.2.2.2.2.2.2.2.2.2.2.2.2.2.1 (by decide) ?_
      refine g_lv [0, 1] rfl ?_
      exact t_M_startsRota_69 rec42 hrec42 _ _ _ _ _ _ _  hf
def f_M_startsRota_42  : Nat → Nat → Int32 → mH → Option mH
  | 0 => fun _ _ _ => none
  | n + 1 => f_M_startsRota_42b  (f_M_startsRota_42  n)
theorem t_M_startsRota_42 {sc : Nat × (Nat → Int32)}  : ∀ (n : Nat) (b0 : Nat) (b2 : Int32) (h : mH) (h' : mH) (hf : f_M_startsRota_42  n b0 b2 h = some h'), G sc y_M_startsRota prog_10_method_58_code 3 none 3 67 42 [(0, .ref b0), (2, .int b2)] [] h none h'
  | 0, _, _, _, _, hf => by cases hf
  | n + 1, _, _, _, _, hf => t_M_startsRota_42b  (f_M_startsRota_42  n) (t_M_startsRota_42  n) _ _ _ _ hf
def f_M_startsRota_33 (rec2 : Nat → Int32 → Int32 → mH → Option mH) (b0 : Nat) (b1 : Int32) (b2 : Int32) (s0 : Nat) (s1 : Int32) (s2 : Int32) (h : mH) : Option mH :=
  bd1 (sI h 0 s0 s1 s2) fun h12 =>
  rec2 b0 b1 (b2 + (1 : Int32)) h12
set_option maxRecDepth 20000 in
theorem t_M_startsRota_33 {sc : Nat × (Nat → Int32)} (rec2 : Nat → Int32 → Int32 → mH → Option mH) (hrec2 : ∀ (b0 : Nat) (b1 : Int32) (b2 : Int32) (h : mH) (h' : mH), rec2 b0 b1 b2 h = some h' → G sc y_M_startsRota prog_10_method_58_code 3 none 3 67 2 [(0, .ref b0), (1, .int b1), (2, .int b2)] [] h none h') (b0 : Nat) (b1 : Int32) (b2 : Int32) (s0 : Nat) (s1 : Int32) (s2 : Int32) (h : mH) (h' : mH) (hf : f_M_startsRota_33 rec2 b0 b1 b2 s0 s1 s2 h = some h') : G sc y_M_startsRota prog_10_method_58_code 3 none 3 67 33 [(0, .ref b0), (1, .int b1), (2, .int b2)] [.int s2, .int s1, .ref s0] h none h' := by
  unfold f_M_startsRota_33 at hf
  obtain ⟨h12, e13, hf⟩ := bd1_e hf
  refine g_iast (pc := 33) dd_M_startsRota_0.2.2.2.2.2.2.2.2.2.2.2.2.2.2.2.2.2.2.2.2.2.1 e13 ?_
  refine g_iinc (pc := 34) 2 (b2 + (1 : Int32)) [(2, .int (b2 + (1 : Int32))), (0, .ref b0), (1, .int b1)] dd_M_startsRota_0.2.2.2.2.2.2.2.2.2.2.2.2.2.2.2.2.2.2.2.2.2.2.1 rfl rfl (Nat.le_of_ble_eq_true rfl) rfl ?_
  refine g_goto (pc := 37) 2 dd_M_startsRota_0.2.2.2.2.2.2.2.2.2.2.2.2.2.2.2.2.2.2.2.2.2.2.2 (by decide) ?_
  refine g_lv [1, 2, 0] rfl ?_
  exact hrec2 _ _ _ _ _  hf
def f_M_startsRota_2b (rec2 : Nat → Int32 → Int32 → mH → Option mH) (b0 : Nat) (b1 : Int32) (b2 : Int32) (h : mH) : Option mH :=
  bd1 (gI h b0 8 2) fun x1 =>
  if x1 ≤ b2 then
    f_M_startsRota_42  FU b0 (0 : Int32) h
  else
    bd1 (gR h b0 8 28) fun x3 =>
    if ((b1 >>> (b2 &&& 31)) &&& (1 : Int32)) = (1 : Int32) then
      bd1 (kC h b0 8) fun _ =>
      bd2 (f_M_needOf b0 b2 h) fun x9 h7 =>
      f_M_startsRota_33 rec2 b0 b1 b2 x3 b2 x9 h7
    else
      f_M_startsRota_33 rec2 b0 b1 b2 x3 b2 (0 : Int32) h
set_option maxRecDepth 20000 in
theorem t_M_startsRota_2b {sc : Nat × (Nat → Int32)} (rec2 : Nat → Int32 → Int32 → mH → Option mH) (hrec2 : ∀ (b0 : Nat) (b1 : Int32) (b2 : Int32) (h : mH) (h' : mH), rec2 b0 b1 b2 h = some h' → G sc y_M_startsRota prog_10_method_58_code 3 none 3 67 2 [(0, .ref b0), (1, .int b1), (2, .int b2)] [] h none h') (b0 : Nat) (b1 : Int32) (b2 : Int32) (h : mH) (h' : mH) (hf : f_M_startsRota_2b rec2 b0 b1 b2 h = some h') : G sc y_M_startsRota prog_10_method_58_code 3 none 3 67 2 [(0, .ref b0), (1, .int b1), (2, .int b2)] [] h none h' := by
  unfold f_M_startsRota_2b at hf
  refine g_iload_n (pc := 2) 2 dd_M_startsRota_0.2.2.1 rfl rfl ?_
  refine g_aload_n (pc := 3) 0 dd_M_startsRota_0.2.2.2.1 rfl rfl ?_
  obtain ⟨x1, e2, hf⟩ := bd1_e hf
  refine g_get (pc := 4) (ci := 8) (kk := 2) dd_M_startsRota_0.2.2.2.2.1 rfl in_M (by decide) wd_940 (gI_spec e2) ?_
  refine g_icmpge (pc := 7) 40 dd_M_startsRota_0.2.2.2.2.2.1 (by decide) (fun c11 => ?_) (fun c11 => ?_)
  · replace hf := (if_pos c11).symm.trans hf
    refine g_iconst (pc := 40) (0 : Int32) dd_M_startsRota_40.1 (by decide) ?_
    refine g_istore_n (pc := 41) [(2, .int (0 : Int32)), (0, .ref b0), (1, .int b1)] dd_M_startsRota_40.2.1 rfl (Nat.le_of_ble_eq_true rfl) rfl ?_
    refine g_lv [1, 0] rfl ?_
    exact t_M_startsRota_42  FU _ _ _ _  hf
  · replace hf := (if_neg c11).symm.trans hf
    refine g_aload_n (pc := 10) 0 dd_M_startsRota_0.2.2.2.2.2.2.1 rfl rfl ?_
    obtain ⟨x3, e4, hf⟩ := bd1_e hf
    refine g_get (pc := 11) (ci := 8) (kk := 28) dd_M_startsRota_0.2.2.2.2.2.2.2.1 rfl in_M (by decide) wd_966 (gR_spec e4) ?_
    refine g_iload_n (pc := 14) 2 dd_M_startsRota_0.2.2.2.2.2.2.2.2.1 rfl rfl ?_
    refine g_iload_n (pc := 15) 1 dd_M_startsRota_0.2.2.2.2.2.2.2.2.2.1 rfl rfl ?_
    refine g_iload_n (pc := 16) 2 dd_M_startsRota_0.2.2.2.2.2.2.2.2.2.2.1 rfl rfl ?_
    refine g_ishr (pc := 17) dd_M_startsRota_0.2.2.2.2.2.2.2.2.2.2.2.1 ?_
    refine g_iconst (pc := 18) (1 : Int32) dd_M_startsRota_0.2.2.2.2.2.2.2.2.2.2.2.2.1 (by decide) ?_
    refine g_iand (pc := 19) dd_M_startsRota_0.2.2.2.2.2.2.2.2.2.2.2.2.2.1 ?_
    refine g_iconst (pc := 20) (1 : Int32) dd_M_startsRota_0.2.2.2.2.2.2.2.2.2.2.2.2.2.2.1 (by decide) ?_
    refine g_icmpne (pc := 21) 32 dd_M_startsRota_0.2.2.2.2.2.2.2.2.2.2.2.2.2.2.2.1 (by decide) (fun c10 => ?_) (fun c10 => ?_)
    · replace hf := (if_neg c10).symm.trans hf
      refine g_iconst (pc := 32) (0 : Int32) dd_M_startsRota_0.2.2.2.2.2.2.2.2.2.2.2.2.2.2.2.2.2.2.2.2.1 (by decide) ?_
      refine g_lv [0, 1, 2] rfl ?_
      exact t_M_startsRota_33 rec2 hrec2 _ _ _ _ _ _ _ _  hf
    · replace hf := (if_pos c10).symm.trans hf
      refine g_aload_n (pc := 24) 0 dd_M_startsRota_0.2.2.2.2.2.2.2.2.2.2.2.2.2.2.2.2.1 rfl rfl ?_
      refine g_iload_n (pc := 25) 2 dd_M_startsRota_0.2.2.2.2.2.2.2.2.2.2.2.2.2.2.2.2.2.1 rfl rfl ?_
      obtain ⟨u6, e5, hf⟩ := bd1_e hf
      obtain ⟨x9, h7, e8, hf⟩ := bd2_e hf
      refine g_callV (pc := 26) (ci := 8) [.int b2] (site_of si_M_needOf (by decide) (by decide)) wd_1140 wd_1142 wp_45 dd_M_startsRota_0.2.2.2.2.2.2.2.2.2.2.2.2.2.2.2.2.2.2.1 rfl e5 (Nat.le_of_ble_eq_true rfl) (fun z => absurd z si_na_M_needOf) (fun z => absurd z si_na_M_needOf) (fun z => absurd z si_na_M_needOf) (c_M_needOf e8) rfl ?_
      refine g_st [.int x9, .int b2, .ref x3] rfl ?_
      refine g_goto (pc := 29) 33 dd_M_startsRota_0.2.2.2.2.2.2.2.2.2.2.2.2.2.2.2.2.2.2.2.1 (by decide) ?_
      refine g_lv [0, 1, 2] rfl ?_
      exact t_M_startsRota_33 rec2 hrec2 _ _ _ _ _ _ _ _  hf
def f_M_startsRota_2  : Nat → Nat → Int32 → Int32 → mH → Option mH
  | 0 => fun _ _ _ _ => none
  | n + 1 => f_M_startsRota_2b  (f_M_startsRota_2  n)
theorem t_M_startsRota_2 {sc : Nat × (Nat → Int32)}  : ∀ (n : Nat) (b0 : Nat) (b1 : Int32) (b2 : Int32) (h : mH) (h' : mH) (hf : f_M_startsRota_2  n b0 b1 b2 h = some h'), G sc y_M_startsRota prog_10_method_58_code 3 none 3 67 2 [(0, .ref b0), (1, .int b1), (2, .int b2)] [] h none h'
  | 0, _, _, _, _, _, hf => by cases hf
  | n + 1, _, _, _, _, _, hf => t_M_startsRota_2b  (f_M_startsRota_2  n) (t_M_startsRota_2  n) _ _ _ _ _ hf
def f_M_startsRota_0  (a0 : Nat) (a1 : Int32) (h : mH) : Option mH :=
  f_M_startsRota_2  FU a0 a1 (0 : Int32) h
set_option maxRecDepth 20000 in
theorem t_M_startsRota_0 {sc : Nat × (Nat → Int32)}  (a0 : Nat) (a1 : Int32) (h : mH) (h' : mH) (hf : f_M_startsRota_0  a0 a1 h = some h') : G sc y_M_startsRota prog_10_method_58_code 3 none 3 67 0 [(0, .ref a0), (1, .int a1)] [] h none h' := by
  unfold f_M_startsRota_0 at hf
  refine g_iconst (pc := 0) (0 : Int32) dd_M_startsRota_0.1 (by decide) ?_
  refine g_istore_n (pc := 1) [(2, .int (0 : Int32)), (0, .ref a0), (1, .int a1)] dd_M_startsRota_0.2.1 rfl (Nat.le_of_ble_eq_true rfl) rfl ?_
  refine g_lv [1, 2, 0] rfl ?_
  exact t_M_startsRota_2  FU _ _ _ _ _  hf
def f_M_startsRota (a0 : Nat) (a1 : Int32) (h : mH) : Option mH := f_M_startsRota_0 a0 a1 h
theorem c_M_startsRota {sc : Nat × (Nat → Int32)} {a0 : Nat} {a1 : Int32} {h : mH} {h' : mH} (hf : f_M_startsRota a0 a1 h = some h') : MM sc y_M_startsRota prog_10_method_58_code 3 none 3 67 [.ref a0, .int a1] h none h' :=
  mm_of_G si_pn_M (Nat.le_of_ble_eq_true rfl) (t_M_startsRota_0 _ _ _ _ hf)
/-! M at (IIII)I -/
set_option maxRecDepth 100000 in
theorem dd_M_at_0 : (decode prog_10_method_53_code 0 = .ok (.bipush 16, 2)) ∧ (decode prog_10_method_53_code 2 = .ok (.iload_n 0, 1)) ∧ (decode prog_10_method_53_code 3 = .ok (.imul, 1)) ∧ (decode prog_10_method_53_code 4 = .ok (.iload_n 1, 1)) ∧ (decode prog_10_method_53_code 5 = .ok (.iadd, 1)) ∧ (decode prog_10_method_53_code 6 = .ok (.bipush 16, 2)) ∧ (decode prog_10_method_53_code 8 = .ok (.imul, 1)) ∧ (decode prog_10_method_53_code 9 = .ok (.iload_n 2, 1)) ∧ (decode prog_10_method_53_code 10 = .ok (.iadd, 1)) ∧ (decode prog_10_method_53_code 11 = .ok (.bipush 16, 2)) ∧ (decode prog_10_method_53_code 13 = .ok (.imul, 1)) ∧ (decode prog_10_method_53_code 14 = .ok (.iload_n 3, 1)) ∧ (decode prog_10_method_53_code 15 = .ok (.iadd, 1)) ∧ (decode prog_10_method_53_code 16 = .ok (.ireturn, 1)) := by
  have h : List.drop 0 prog_10_method_53_code.data.toList = 0x10 :: _ := rfl
  refine ⟨zq_k_s1 16 (fun z => .bipush z) 16 h rfl (zq_o_16 _) (by decide +kernel), ?_⟩
  replace h := zq_nx2 (q := 2) h rfl
  refine ⟨zq_k_n 26 h rfl (zq_o_26 _), ?_⟩
  replace h := zq_nx1 (q := 3) h rfl
  refine ⟨zq_k_n 104 h rfl (zq_o_104 _), ?_⟩
  replace h := zq_nx1 (q := 4) h rfl
  refine ⟨zq_k_n 27 h rfl (zq_o_27 _), ?_⟩
  replace h := zq_nx1 (q := 5) h rfl
  refine ⟨zq_k_n 96 h rfl (zq_o_96 _), ?_⟩
  replace h := zq_nx1 (q := 6) h rfl
  refine ⟨zq_k_s1 16 (fun z => .bipush z) 16 h rfl (zq_o_16 _) (by decide +kernel), ?_⟩
  replace h := zq_nx2 (q := 8) h rfl
  refine ⟨zq_k_n 104 h rfl (zq_o_104 _), ?_⟩
  replace h := zq_nx1 (q := 9) h rfl
  refine ⟨zq_k_n 28 h rfl (zq_o_28 _), ?_⟩
  replace h := zq_nx1 (q := 10) h rfl
  refine ⟨zq_k_n 96 h rfl (zq_o_96 _), ?_⟩
  replace h := zq_nx1 (q := 11) h rfl
  refine ⟨zq_k_s1 16 (fun z => .bipush z) 16 h rfl (zq_o_16 _) (by decide +kernel), ?_⟩
  replace h := zq_nx2 (q := 13) h rfl
  refine ⟨zq_k_n 104 h rfl (zq_o_104 _), ?_⟩
  replace h := zq_nx1 (q := 14) h rfl
  refine ⟨zq_k_n 29 h rfl (zq_o_29 _), ?_⟩
  replace h := zq_nx1 (q := 15) h rfl
  refine ⟨zq_k_n 96 h rfl (zq_o_96 _), ?_⟩
  replace h := zq_nx1 (q := 16) h rfl
  exact zq_k_n 172 h rfl (zq_o_172 _)
def f_M_at_0  (a0 : Int32) (a1 : Int32) (a2 : Int32) (a3 : Int32) (h : mH) : Option (Int32 × mH) :=
  some (((((((16 : Int32) * a0) + a1) * (16 : Int32)) + a2) * (16 : Int32)) + a3, h)
set_option maxRecDepth 20000 in
theorem t_M_at_0 {sc : Nat × (Nat → Int32)}  (a0 : Int32) (a1 : Int32) (a2 : Int32) (a3 : Int32) (h : mH) (r : Int32) (h' : mH) (hf : f_M_at_0  a0 a1 a2 a3 h = some (r, h')) : G sc y_M_at prog_10_method_53_code 4 (some .int) 0 0 0 [(0, .int a0), (1, .int a1), (2, .int a2), (3, .int a3)] [] h (some (.int r)) h' := by
  unfold f_M_at_0 at hf
  refine g_bipush (pc := 0) (16 : Int32) dd_M_at_0.1 (by decide) ?_
  refine g_iload_n (pc := 2) 0 dd_M_at_0.2.1 rfl rfl ?_
  refine g_imul (pc := 3) dd_M_at_0.2.2.1 ?_
  refine g_iload_n (pc := 4) 1 dd_M_at_0.2.2.2.1 rfl rfl ?_
  refine g_iadd (pc := 5) dd_M_at_0.2.2.2.2.1 ?_
  refine g_bipush (pc := 6) (16 : Int32) dd_M_at_0.2.2.2.2.2.1 (by decide) ?_
  refine g_imul (pc := 8) dd_M_at_0.2.2.2.2.2.2.1 ?_
  refine g_iload_n (pc := 9) 2 dd_M_at_0.2.2.2.2.2.2.2.1 rfl rfl ?_
  refine g_iadd (pc := 10) dd_M_at_0.2.2.2.2.2.2.2.2.1 ?_
  refine g_bipush (pc := 11) (16 : Int32) dd_M_at_0.2.2.2.2.2.2.2.2.2.1 (by decide) ?_
  refine g_imul (pc := 13) dd_M_at_0.2.2.2.2.2.2.2.2.2.2.1 ?_
  refine g_iload_n (pc := 14) 3 dd_M_at_0.2.2.2.2.2.2.2.2.2.2.2.1 rfl rfl ?_
  refine g_iadd (pc := 15) dd_M_at_0.2.2.2.2.2.2.2.2.2.2.2.2.1 ?_
  obtain ⟨rfl, rfl⟩ := ret2 hf
  exact g_iret (pc := 16) rfl dd_M_at_0.2.2.2.2.2.2.2.2.2.2.2.2.2
def f_M_at (a0 : Int32) (a1 : Int32) (a2 : Int32) (a3 : Int32) (h : mH) : Option (Int32 × mH) := f_M_at_0 a0 a1 a2 a3 h
theorem c_M_at {sc : Nat × (Nat → Int32)} {a0 : Int32} {a1 : Int32} {a2 : Int32} {a3 : Int32} {h : mH} {r : Int32} {h' : mH} (hf : f_M_at a0 a1 a2 a3 h = some (r, h')) : MM sc y_M_at prog_10_method_53_code 4 (some .int) 0 0 [.int a0, .int a1, .int a2, .int a3] h (some (.int r)) h' :=
  mm_of_G si_pn_M (Nat.le_of_ble_eq_true rfl) (t_M_at_0 _ _ _ _ _ _ _ hf)
/-! M roomAt (II)I -/
set_option maxRecDepth 100000 in
theorem dd_M_roomAt_0 : (decode prog_10_method_54_code 0 = .ok (.iload_n 1, 1)) ∧ (decode prog_10_method_54_code 1 = .ok (.aload_n 0, 1)) ∧ (decode prog_10_method_54_code 2 = .ok (.getfield 109, 3)) ∧ (decode prog_10_method_54_code 5 = .ok (.if_icmp .ge 12, 3)) ∧ (decode prog_10_method_54_code 8 = .ok (.aload_n 0, 1)) ∧ (decode prog_10_method_54_code 9 = .ok (.iload_n 1, 1)) ∧ (decode prog_10_method_54_code 10 = .ok (.iload_n 2, 1)) ∧ (decode prog_10_method_54_code 11 = .ok (.invokevirtual 198, 3)) ∧ (decode prog_10_method_54_code 14 = .ok (.goto 4, 3)) ∧ (decode prog_10_method_54_code 17 = .ok (.iconst 0, 1)) ∧ (decode prog_10_method_54_code 18 = .ok (.ireturn, 1)) := by
  have h : List.drop 0 prog_10_method_54_code.data.toList = 0x1b :: _ := rfl
  refine ⟨zq_k_n 27 h rfl (zq_o_27 _), ?_⟩
  replace h := zq_nx1 (q := 1) h rfl
  refine ⟨zq_k_n 42 h rfl (zq_o_42 _), ?_⟩
  replace h := zq_nx1 (q := 2) h rfl
  refine ⟨zq_k_u2 180 (fun z => .getfield z) 109 h rfl (zq_o_180 _) (by decide +kernel), ?_⟩
  replace h := zq_nx3 (q := 5) h rfl
  refine ⟨zq_k_s2 162 (fun z => .if_icmp .ge z) 12 h rfl (zq_o_162 _) (by decide +kernel), ?_⟩
  replace h := zq_nx3 (q := 8) h rfl
  refine ⟨zq_k_n 42 h rfl (zq_o_42 _), ?_⟩
  replace h := zq_nx1 (q := 9) h rfl
  refine ⟨zq_k_n 27 h rfl (zq_o_27 _), ?_⟩
  replace h := zq_nx1 (q := 10) h rfl
  refine ⟨zq_k_n 28 h rfl (zq_o_28 _), ?_⟩
  replace h := zq_nx1 (q := 11) h rfl
  refine ⟨zq_k_u2 182 (fun z => .invokevirtual z) 198 h rfl (zq_o_182 _) (by decide +kernel), ?_⟩
  replace h := zq_nx3 (q := 14) h rfl
  refine ⟨zq_k_s2 167 (fun z => .goto z) 4 h rfl (zq_o_167 _) (by decide +kernel), ?_⟩
  replace h := zq_nx3 (q := 17) h rfl
  refine ⟨zq_k_n 3 h rfl (zq_o_3 _), ?_⟩
  replace h := zq_nx1 (q := 18) h rfl
  exact zq_k_n 172 h rfl (zq_o_172 _)
def f_M_roomAt_0  (a0 : Nat) (a1 : Int32) (a2 : Int32) (h : mH) : Option (Int32 × mH) :=
  bd1 (gI h a0 8 3) fun x1 =>
  if x1 ≤ a1 then
    some ((0 : Int32), h)
  else
    bd1 (kC h a0 8) fun _ =>
    bd2 (f_M_roomOf a0 a1 a2 h) fun x7 h5 =>
    some (x7, h5)
set_option maxRecDepth 20000 in
theorem t_M_roomAt_0 {sc : Nat × (Nat → Int32)}  (a0 : Nat) (a1 : Int32) (a2 : Int32) (h : mH) (r : Int32) (h' : mH) (hf : f_M_roomAt_0  a0 a1 a2 h = some (r, h')) : G sc y_M_roomAt prog_10_method_54_code 3 (some .int) 2 46 0 [(0, .ref a0), (1, .int a1), (2, .int a2)] [] h (some (.int r)) h' := by
  unfold f_M_roomAt_0 at hf
  refine g_iload_n (pc := 0) 1 dd_M_roomAt_0.1 rfl rfl ?_
  refine g_aload_n (pc := 1) 0 dd_M_roomAt_0.2.1 rfl rfl ?_
  obtain ⟨x1, e2, hf⟩ := bd1_e hf
  refine g_get (pc := 2) (ci := 8) (kk := 3) dd_M_roomAt_0.2.2.1 rfl in_M (by decide) wd_941 (gI_spec e2) ?_
  refine g_icmpge (pc := 5) 17 dd_M_roomAt_0.2.2.2.1 (by decide) (fun c8 => ?_) (fun c8 => ?_)
  · replace hf := (if_pos c8).symm.trans hf
    refine g_iconst (pc := 17) (0 : Int32) dd_M_roomAt_0.2.2.2.2.2.2.2.2.2.1 (by decide) ?_
    obtain ⟨rfl, rfl⟩ := ret2 hf
    exact g_iret (pc := 18) rfl dd_M_roomAt_0.2.2.2.2.2.2.2.2.2.2
  · replace hf := (if_neg c8).symm.trans hf
    refine g_aload_n (pc := 8) 0 dd_M_roomAt_0.2.2.2.2.1 rfl rfl ?_
    refine g_iload_n (pc := 9) 1 dd_M_roomAt_0.2.2.2.2.2.1 rfl rfl ?_
    refine g_iload_n (pc := 10) 2 dd_M_roomAt_0.2.2.2.2.2.2.1 rfl rfl ?_
    obtain ⟨u4, e3, hf⟩ := bd1_e hf
    obtain ⟨x7, h5, e6, hf⟩ := bd2_e hf
    refine g_callV (pc := 11) (ci := 8) [.int a1, .int a2] (site_of si_M_roomOf (by decide) (by decide)) wd_1168 wd_1170 wp_51 dd_M_roomAt_0.2.2.2.2.2.2.2.1 rfl e3 (Nat.le_of_ble_eq_true rfl) (fun z => absurd z si_na_M_roomOf) (fun z => absurd z si_na_M_roomOf) (fun z => absurd z si_na_M_roomOf) (c_M_roomOf e6) rfl ?_
    refine g_st [.int x7] rfl ?_
    refine g_goto (pc := 14) 18 dd_M_roomAt_0.2.2.2.2.2.2.2.2.1 (by decide) ?_
    obtain ⟨rfl, rfl⟩ := ret2 hf
    exact g_iret (pc := 18) rfl dd_M_roomAt_0.2.2.2.2.2.2.2.2.2.2
def f_M_roomAt (a0 : Nat) (a1 : Int32) (a2 : Int32) (h : mH) : Option (Int32 × mH) := f_M_roomAt_0 a0 a1 a2 h
theorem c_M_roomAt {sc : Nat × (Nat → Int32)} {a0 : Nat} {a1 : Int32} {a2 : Int32} {h : mH} {r : Int32} {h' : mH} (hf : f_M_roomAt a0 a1 a2 h = some (r, h')) : MM sc y_M_roomAt prog_10_method_54_code 3 (some .int) 2 46 [.ref a0, .int a1, .int a2] h (some (.int r)) h' :=
  mm_of_G si_pn_M (Nat.le_of_ble_eq_true rfl) (t_M_roomAt_0 _ _ _ _ _ _ hf)
/-! M harmBy (IIIIIII)I -/
set_option maxRecDepth 100000 in
theorem dd_M_harmBy_0 : (decode prog_10_method_55_code 0 = .ok (.iload 5, 2)) ∧ (decode prog_10_method_55_code 2 = .ok (.iload_n 2, 1)) ∧ (decode prog_10_method_55_code 3 = .ok (.if_icmp .gt 49, 3)) ∧ (decode prog_10_method_55_code 6 = .ok (.iload 6, 2)) ∧ (decode prog_10_method_55_code 8 = .ok (.iload_n 3, 1)) ∧ (decode prog_10_method_55_code 9 = .ok (.if_icmp .gt 43, 3)) ∧ (decode prog_10_method_55_code 12 = .ok (.iload 7, 2)) ∧ (decode prog_10_method_55_code 14 = .ok (.iload 4, 2)) ∧ (decode prog_10_method_55_code 16 = .ok (.if_icmp .gt 36, 3)) ∧ (decode prog_10_method_55_code 19 = .ok (.iload 5, 2)) ∧ (decode prog_10_method_55_code 21 = .ok (.aload_n 0, 1)) ∧ (decode prog_10_method_55_code 22 = .ok (.iconst 0, 1)) ∧ (decode prog_10_method_55_code 23 = .ok (.iload_n 1, 1)) ∧ (decode prog_10_method_55_code 24 = .ok (.invokevirtual 243, 3)) ∧ (decode prog_10_method_55_code 27 = .ok (.if_icmp .gt 25, 3)) ∧ (decode prog_10_method_55_code 30 = .ok (.iload 6, 2)) ∧ (decode prog_10_method_55_code 32 = .ok (.aload_n 0, 1)) ∧ (decode prog_10_method_55_code 33 = .ok (.iconst 1, 1)) ∧ (decode prog_10_method_55_code 34 = .ok (.iload_n 1, 1)) ∧ (decode prog_10_method_55_code 35 = .ok (.invokevirtual 243, 3)) ∧ (decode prog_10_method_55_code 38 = .ok (.if_icmp .gt 14, 3)) ∧ (decode prog_10_method_55_code 41 = .ok (.iload 7, 2)) ∧ (decode prog_10_method_55_code 43 = .ok (.aload_n 0, 1)) ∧ (decode prog_10_method_55_code 44 = .ok (.iconst 2, 1)) := by
  have h : List.drop 0 prog_10_method_55_code.data.toList = 0x15 :: _ := rfl
  refine ⟨zq_k_u1 21 (fun z => .iload z) 5 h rfl (zq_o_21 _) (by decide +kernel), ?_⟩
  replace h := zq_nx2 (q := 2) h rfl
  refine ⟨zq_k_n 28 h rfl (zq_o_28 _), ?_⟩
  replace h := zq_nx1 (q := 3) h rfl
  refine ⟨zq_k_s2 163 (fun z => .if_icmp .gt z) 49 h rfl (zq_o_163 _) (by decide +kernel), ?_⟩
  replace h := zq_nx3 (q := 6) h rfl
  refine ⟨zq_k_u1 21 (fun z => .iload z) 6 h rfl (zq_o_21 _) (by decide +kernel), ?_⟩
  replace h := zq_nx2 (q := 8) h rfl
  refine ⟨zq_k_n 29 h rfl (zq_o_29 _), ?_⟩
  replace h := zq_nx1 (q := 9) h rfl
  refine ⟨zq_k_s2 163 (fun z => .if_icmp .gt z) 43 h rfl (zq_o_163 _) (by decide +kernel), ?_⟩
  replace h := zq_nx3 (q := 12) h rfl
  refine ⟨zq_k_u1 21 (fun z => .iload z) 7 h rfl (zq_o_21 _) (by decide +kernel), ?_⟩
  replace h := zq_nx2 (q := 14) h rfl
  refine ⟨zq_k_u1 21 (fun z => .iload z) 4 h rfl (zq_o_21 _) (by decide +kernel), ?_⟩
  replace h := zq_nx2 (q := 16) h rfl
  refine ⟨zq_k_s2 163 (fun z => .if_icmp .gt z) 36 h rfl (zq_o_163 _) (by decide +kernel), ?_⟩
  replace h := zq_nx3 (q := 19) h rfl
  refine ⟨zq_k_u1 21 (fun z => .iload z) 5 h rfl (zq_o_21 _) (by decide +kernel), ?_⟩
  replace h := zq_nx2 (q := 21) h rfl
  refine ⟨zq_k_n 42 h rfl (zq_o_42 _), ?_⟩
  replace h := zq_nx1 (q := 22) h rfl
  refine ⟨zq_k_n 3 h rfl (zq_o_3 _), ?_⟩
  replace h := zq_nx1 (q := 23) h rfl
  refine ⟨zq_k_n 27 h rfl (zq_o_27 _), ?_⟩
  replace h := zq_nx1 (q := 24) h rfl
  refine ⟨zq_k_u2 182 (fun z => .invokevirtual z) 243 h rfl (zq_o_182 _) (by decide +kernel), ?_⟩
  replace h := zq_nx3 (q := 27) h rfl
  refine ⟨zq_k_s2 163 (fun z => .if_icmp .gt z) 25 h rfl (zq_o_163 _) (by decide +kernel), ?_⟩
  replace h := zq_nx3 (q := 30) h rfl
  refine ⟨zq_k_u1 21 (fun z => .iload z) 6 h rfl (zq_o_21 _) (by decide +kernel), ?_⟩
  replace h := zq_nx2 (q := 32) h rfl
  refine ⟨zq_k_n 42 h rfl (zq_o_42 _), ?_⟩
  replace h := zq_nx1 (q := 33) h rfl
  refine ⟨zq_k_n 4 h rfl (zq_o_4 _), ?_⟩
  replace h := zq_nx1 (q := 34) h rfl
  refine ⟨zq_k_n 27 h rfl (zq_o_27 _), ?_⟩
  replace h := zq_nx1 (q := 35) h rfl
  refine ⟨zq_k_u2 182 (fun z => .invokevirtual z) 243 h rfl (zq_o_182 _) (by decide +kernel), ?_⟩
  replace h := zq_nx3 (q := 38) h rfl
  refine ⟨zq_k_s2 163 (fun z => .if_icmp .gt z) 14 h rfl (zq_o_163 _) (by decide +kernel), ?_⟩
  replace h := zq_nx3 (q := 41) h rfl
  refine ⟨zq_k_u1 21 (fun z => .iload z) 7 h rfl (zq_o_21 _) (by decide +kernel), ?_⟩
  replace h := zq_nx2 (q := 43) h rfl
  refine ⟨zq_k_n 42 h rfl (zq_o_42 _), ?_⟩
  replace h := zq_nx1 (q := 44) h rfl
  exact zq_k_n 5 h rfl (zq_o_5 _)
set_option maxRecDepth 100000 in
theorem dd_M_harmBy_45 : (decode prog_10_method_55_code 45 = .ok (.iload_n 1, 1)) ∧ (decode prog_10_method_55_code 46 = .ok (.invokevirtual 243, 3)) ∧ (decode prog_10_method_55_code 49 = .ok (.if_icmp .le 6, 3)) ∧ (decode prog_10_method_55_code 52 = .ok (.ldc 246, 2)) ∧ (decode prog_10_method_55_code 54 = .ok (.ireturn, 1)) ∧ (decode prog_10_method_55_code 55 = .ok (.iload 5, 2)) ∧ (decode prog_10_method_55_code 57 = .ok (.aload_n 0, 1)) ∧ (decode prog_10_method_55_code 58 = .ok (.getfield 20, 3)) ∧ (decode prog_10_method_55_code 61 = .ok (.iload_n 1, 1)) ∧ (decode prog_10_method_55_code 62 = .ok (.iaload, 1)) ∧ (decode prog_10_method_55_code 63 = .ok (.aload_n 0, 1)) ∧ (decode prog_10_method_55_code 64 = .ok (.getfield 26, 3)) ∧ (decode prog_10_method_55_code 67 = .ok (.iconst 0, 1)) ∧ (decode prog_10_method_55_code 68 = .ok (.iaload, 1)) ∧ (decode prog_10_method_55_code 69 = .ok (.iadd, 1)) ∧ (decode prog_10_method_55_code 70 = .ok (.imul, 1)) ∧ (decode prog_10_method_55_code 71 = .ok (.iload 6, 2)) ∧ (decode prog_10_method_55_code 73 = .ok (.aload_n 0, 1)) ∧ (decode prog_10_method_55_code 74 = .ok (.getfield 20, 3)) ∧ (decode prog_10_method_55_code 77 = .ok (.iload_n 1, 1)) ∧ (decode prog_10_method_55_code 78 = .ok (.iaload, 1)) ∧ (decode prog_10_method_55_code 79 = .ok (.aload_n 0, 1)) ∧ (decode prog_10_method_55_code 80 = .ok (.getfield 26, 3)) ∧ (decode prog_10_method_55_code 83 = .ok (.iconst 1, 1)) := by
  have h : List.drop 45 prog_10_method_55_code.data.toList = 0x1b :: _ := rfl
  refine ⟨zq_k_n 27 h rfl (zq_o_27 _), ?_⟩
  replace h := zq_nx1 (q := 46) h rfl
  refine ⟨zq_k_u2 182 (fun z => .invokevirtual z) 243 h rfl (zq_o_182 _) (by decide +kernel), ?_⟩
  replace h := zq_nx3 (q := 49) h rfl
  refine ⟨zq_k_s2 164 (fun z => .if_icmp .le z) 6 h rfl (zq_o_164 _) (by decide +kernel), ?_⟩
  replace h := zq_nx3 (q := 52) h rfl
  refine ⟨zq_k_u1 18 (fun z => .ldc z) 246 h rfl (zq_o_18 _) (by decide +kernel), ?_⟩
  replace h := zq_nx2 (q := 54) h rfl
  refine ⟨zq_k_n 172 h rfl (zq_o_172 _), ?_⟩
  replace h := zq_nx1 (q := 55) h rfl
  refine ⟨zq_k_u1 21 (fun z => .iload z) 5 h rfl (zq_o_21 _) (by decide +kernel), ?_⟩
  replace h := zq_nx2 (q := 57) h rfl
  refine ⟨zq_k_n 42 h rfl (zq_o_42 _), ?_⟩
  replace h := zq_nx1 (q := 58) h rfl
  refine ⟨zq_k_u2 180 (fun z => .getfield z) 20 h rfl (zq_o_180 _) (by decide +kernel), ?_⟩
  replace h := zq_nx3 (q := 61) h rfl
  refine ⟨zq_k_n 27 h rfl (zq_o_27 _), ?_⟩
  replace h := zq_nx1 (q := 62) h rfl
  refine ⟨zq_k_n 46 h rfl (zq_o_46 _), ?_⟩
  replace h := zq_nx1 (q := 63) h rfl
  refine ⟨zq_k_n 42 h rfl (zq_o_42 _), ?_⟩
  replace h := zq_nx1 (q := 64) h rfl
  refine ⟨zq_k_u2 180 (fun z => .getfield z) 26 h rfl (zq_o_180 _) (by decide +kernel), ?_⟩
  replace h := zq_nx3 (q := 67) h rfl
  refine ⟨zq_k_n 3 h rfl (zq_o_3 _), ?_⟩
  replace h := zq_nx1 (q := 68) h rfl
  refine ⟨zq_k_n 46 h rfl (zq_o_46 _), ?_⟩
  replace h := zq_nx1 (q := 69) h rfl
  refine ⟨zq_k_n 96 h rfl (zq_o_96 _), ?_⟩
  replace h := zq_nx1 (q := 70) h rfl
  refine ⟨zq_k_n 104 h rfl (zq_o_104 _), ?_⟩
  replace h := zq_nx1 (q := 71) h rfl
  refine ⟨zq_k_u1 21 (fun z => .iload z) 6 h rfl (zq_o_21 _) (by decide +kernel), ?_⟩
  replace h := zq_nx2 (q := 73) h rfl
  refine ⟨zq_k_n 42 h rfl (zq_o_42 _), ?_⟩
  replace h := zq_nx1 (q := 74) h rfl
  refine ⟨zq_k_u2 180 (fun z => .getfield z) 20 h rfl (zq_o_180 _) (by decide +kernel), ?_⟩
  replace h := zq_nx3 (q := 77) h rfl
  refine ⟨zq_k_n 27 h rfl (zq_o_27 _), ?_⟩
  replace h := zq_nx1 (q := 78) h rfl
  refine ⟨zq_k_n 46 h rfl (zq_o_46 _), ?_⟩
  replace h := zq_nx1 (q := 79) h rfl
  refine ⟨zq_k_n 42 h rfl (zq_o_42 _), ?_⟩
  replace h := zq_nx1 (q := 80) h rfl
  refine ⟨zq_k_u2 180 (fun z => .getfield z) 26 h rfl (zq_o_180 _) (by decide +kernel), ?_⟩
  replace h := zq_nx3 (q := 83) h rfl
  exact zq_k_n 4 h rfl (zq_o_4 _)
set_option maxRecDepth 100000 in
theorem dd_M_harmBy_84 : (decode prog_10_method_55_code 84 = .ok (.iaload, 1)) ∧ (decode prog_10_method_55_code 85 = .ok (.iadd, 1)) ∧ (decode prog_10_method_55_code 86 = .ok (.imul, 1)) ∧ (decode prog_10_method_55_code 87 = .ok (.iadd, 1)) ∧ (decode prog_10_method_55_code 88 = .ok (.iload 7, 2)) ∧ (decode prog_10_method_55_code 90 = .ok (.aload_n 0, 1)) ∧ (decode prog_10_method_55_code 91 = .ok (.getfield 20, 3)) ∧ (decode prog_10_method_55_code 94 = .ok (.iload_n 1, 1)) ∧ (decode prog_10_method_55_code 95 = .ok (.iaload, 1)) ∧ (decode prog_10_method_55_code 96 = .ok (.aload_n 0, 1)) ∧ (decode prog_10_method_55_code 97 = .ok (.getfield 26, 3)) ∧ (decode prog_10_method_55_code 100 = .ok (.iconst 2, 1)) ∧ (decode prog_10_method_55_code 101 = .ok (.iaload, 1)) ∧ (decode prog_10_method_55_code 102 = .ok (.iadd, 1)) ∧ (decode prog_10_method_55_code 103 = .ok (.imul, 1)) ∧ (decode prog_10_method_55_code 104 = .ok (.iadd, 1)) ∧ (decode prog_10_method_55_code 105 = .ok (.istore 8, 2)) ∧ (decode prog_10_method_55_code 107 = .ok (.aload_n 0, 1)) ∧ (decode prog_10_method_55_code 108 = .ok (.getfield 53, 3)) ∧ (decode prog_10_method_55_code 111 = .ok (.iload_n 1, 1)) ∧ (decode prog_10_method_55_code 112 = .ok (.iconst 1, 1)) ∧ (decode prog_10_method_55_code 113 = .ok (.iadd, 1)) ∧ (decode prog_10_method_55_code 114 = .ok (.iload_n 2, 1)) ∧ (decode prog_10_method_55_code 115 = .ok (.iload 5, 2)) := by
  have h : List.drop 84 prog_10_method_55_code.data.toList = 0x2e :: _ := rfl
  refine ⟨zq_k_n 46 h rfl (zq_o_46 _), ?_⟩
  replace h := zq_nx1 (q := 85) h rfl
  refine ⟨zq_k_n 96 h rfl (zq_o_96 _), ?_⟩
  replace h := zq_nx1 (q := 86) h rfl
  refine ⟨zq_k_n 104 h rfl (zq_o_104 _), ?_⟩
  replace h := zq_nx1 (q := 87) h rfl
  refine ⟨zq_k_n 96 h rfl (zq_o_96 _), ?_⟩
  replace h := zq_nx1 (q := 88) h rfl
  refine ⟨zq_k_u1 21 (fun z => .iload z) 7 h rfl (zq_o_21 _) (by decide +kernel), ?_⟩
  replace h := zq_nx2 (q := 90) h rfl
  refine ⟨zq_k_n 42 h rfl (zq_o_42 _), ?_⟩
  replace h := zq_nx1 (q := 91) h rfl
  refine ⟨zq_k_u2 180 (fun z => .getfield z) 20 h rfl (zq_o_180 _) (by decide +kernel), ?_⟩
  replace h := zq_nx3 (q := 94) h rfl
  refine ⟨zq_k_n 27 h rfl (zq_o_27 _), ?_⟩
  replace h := zq_nx1 (q := 95) h rfl
  refine ⟨zq_k_n 46 h rfl (zq_o_46 _), ?_⟩
  replace h := zq_nx1 (q := 96) h rfl
  refine ⟨zq_k_n 42 h rfl (zq_o_42 _), ?_⟩
  replace h := zq_nx1 (q := 97) h rfl
  refine ⟨zq_k_u2 180 (fun z => .getfield z) 26 h rfl (zq_o_180 _) (by decide +kernel), ?_⟩
  replace h := zq_nx3 (q := 100) h rfl
  refine ⟨zq_k_n 5 h rfl (zq_o_5 _), ?_⟩
  replace h := zq_nx1 (q := 101) h rfl
  refine ⟨zq_k_n 46 h rfl (zq_o_46 _), ?_⟩
  replace h := zq_nx1 (q := 102) h rfl
  refine ⟨zq_k_n 96 h rfl (zq_o_96 _), ?_⟩
  replace h := zq_nx1 (q := 103) h rfl
  refine ⟨zq_k_n 104 h rfl (zq_o_104 _), ?_⟩
  replace h := zq_nx1 (q := 104) h rfl
  refine ⟨zq_k_n 96 h rfl (zq_o_96 _), ?_⟩
  replace h := zq_nx1 (q := 105) h rfl
  refine ⟨zq_k_u1 54 (fun z => .istore z) 8 h rfl (zq_o_54 _) (by decide +kernel), ?_⟩
  replace h := zq_nx2 (q := 107) h rfl
  refine ⟨zq_k_n 42 h rfl (zq_o_42 _), ?_⟩
  replace h := zq_nx1 (q := 108) h rfl
  refine ⟨zq_k_u2 180 (fun z => .getfield z) 53 h rfl (zq_o_180 _) (by decide +kernel), ?_⟩
  replace h := zq_nx3 (q := 111) h rfl
  refine ⟨zq_k_n 27 h rfl (zq_o_27 _), ?_⟩
  replace h := zq_nx1 (q := 112) h rfl
  refine ⟨zq_k_n 4 h rfl (zq_o_4 _), ?_⟩
  replace h := zq_nx1 (q := 113) h rfl
  refine ⟨zq_k_n 96 h rfl (zq_o_96 _), ?_⟩
  replace h := zq_nx1 (q := 114) h rfl
  refine ⟨zq_k_n 28 h rfl (zq_o_28 _), ?_⟩
  replace h := zq_nx1 (q := 115) h rfl
  exact zq_k_u1 21 (fun z => .iload z) 5 h rfl (zq_o_21 _) (by decide +kernel)
set_option maxRecDepth 100000 in
theorem dd_M_harmBy_117 : (decode prog_10_method_55_code 117 = .ok (.isub, 1)) ∧ (decode prog_10_method_55_code 118 = .ok (.iload_n 3, 1)) ∧ (decode prog_10_method_55_code 119 = .ok (.iload 6, 2)) ∧ (decode prog_10_method_55_code 121 = .ok (.isub, 1)) ∧ (decode prog_10_method_55_code 122 = .ok (.iload 4, 2)) ∧ (decode prog_10_method_55_code 124 = .ok (.iload 7, 2)) ∧ (decode prog_10_method_55_code 126 = .ok (.isub, 1)) ∧ (decode prog_10_method_55_code 127 = .ok (.invokestatic 247, 3)) ∧ (decode prog_10_method_55_code 130 = .ok (.iaload, 1)) ∧ (decode prog_10_method_55_code 131 = .ok (.istore 9, 2)) ∧ (decode prog_10_method_55_code 133 = .ok (.iload 9, 2)) ∧ (decode prog_10_method_55_code 135 = .ok (.ldc 246, 2)) ∧ (decode prog_10_method_55_code 137 = .ok (.if_icmp .ne 8, 3)) ∧ (decode prog_10_method_55_code 140 = .ok (.ldc 246, 2)) ∧ (decode prog_10_method_55_code 142 = .ok (.goto 8, 3)) ∧ (decode prog_10_method_55_code 145 = .ok (.iload 8, 2)) ∧ (decode prog_10_method_55_code 147 = .ok (.iload 9, 2)) ∧ (decode prog_10_method_55_code 149 = .ok (.iadd, 1)) ∧ (decode prog_10_method_55_code 150 = .ok (.ireturn, 1)) := by
  have h : List.drop 117 prog_10_method_55_code.data.toList = 0x64 :: _ := rfl
  refine ⟨zq_k_n 100 h rfl (zq_o_100 _), ?_⟩
  replace h := zq_nx1 (q := 118) h rfl
  refine ⟨zq_k_n 29 h rfl (zq_o_29 _), ?_⟩
  replace h := zq_nx1 (q := 119) h rfl
  refine ⟨zq_k_u1 21 (fun z => .iload z) 6 h rfl (zq_o_21 _) (by decide +kernel), ?_⟩
  replace h := zq_nx2 (q := 121) h rfl
  refine ⟨zq_k_n 100 h rfl (zq_o_100 _), ?_⟩
  replace h := zq_nx1 (q := 122) h rfl
  refine ⟨zq_k_u1 21 (fun z => .iload z) 4 h rfl (zq_o_21 _) (by decide +kernel), ?_⟩
  replace h := zq_nx2 (q := 124) h rfl
  refine ⟨zq_k_u1 21 (fun z => .iload z) 7 h rfl (zq_o_21 _) (by decide +kernel), ?_⟩
  replace h := zq_nx2 (q := 126) h rfl
  refine ⟨zq_k_n 100 h rfl (zq_o_100 _), ?_⟩
  replace h := zq_nx1 (q := 127) h rfl
  refine ⟨zq_k_u2 184 (fun z => .invokestatic z) 247 h rfl (zq_o_184 _) (by decide +kernel), ?_⟩
  replace h := zq_nx3 (q := 130) h rfl
  refine ⟨zq_k_n 46 h rfl (zq_o_46 _), ?_⟩
  replace h := zq_nx1 (q := 131) h rfl
  refine ⟨zq_k_u1 54 (fun z => .istore z) 9 h rfl (zq_o_54 _) (by decide +kernel), ?_⟩
  replace h := zq_nx2 (q := 133) h rfl
  refine ⟨zq_k_u1 21 (fun z => .iload z) 9 h rfl (zq_o_21 _) (by decide +kernel), ?_⟩
  replace h := zq_nx2 (q := 135) h rfl
  refine ⟨zq_k_u1 18 (fun z => .ldc z) 246 h rfl (zq_o_18 _) (by decide +kernel), ?_⟩
  replace h := zq_nx2 (q := 137) h rfl
  refine ⟨zq_k_s2 160 (fun z => .if_icmp .ne z) 8 h rfl (zq_o_160 _) (by decide +kernel), ?_⟩
  replace h := zq_nx3 (q := 140) h rfl
  refine ⟨zq_k_u1 18 (fun z => .ldc z) 246 h rfl (zq_o_18 _) (by decide +kernel), ?_⟩
  replace h := zq_nx2 (q := 142) h rfl
  refine ⟨zq_k_s2 167 (fun z => .goto z) 8 h rfl (zq_o_167 _) (by decide +kernel), ?_⟩
  replace h := zq_nx3 (q := 145) h rfl
  refine ⟨zq_k_u1 21 (fun z => .iload z) 8 h rfl (zq_o_21 _) (by decide +kernel), ?_⟩
  replace h := zq_nx2 (q := 147) h rfl
  refine ⟨zq_k_u1 21 (fun z => .iload z) 9 h rfl (zq_o_21 _) (by decide +kernel), ?_⟩
  replace h := zq_nx2 (q := 149) h rfl
  refine ⟨zq_k_n 96 h rfl (zq_o_96 _), ?_⟩
  replace h := zq_nx1 (q := 150) h rfl
  exact zq_k_n 172 h rfl (zq_o_172 _)
def f_M_harmBy_52   (h : mH) : Option (Int32 × mH) :=
  some ((1000000 : Int32), h)
set_option maxRecDepth 20000 in
theorem t_M_harmBy_52 {sc : Nat × (Nat → Int32)}   (h : mH) (r : Int32) (h' : mH) (hf : f_M_harmBy_52   h = some (r, h')) : G sc y_M_harmBy prog_10_method_55_code 10 (some .int) 3 68 52 [] [] h (some (.int r)) h' := by
  unfold f_M_harmBy_52 at hf
  refine g_ldc (pc := 52) (1000000 : Int32) dd_M_harmBy_45.2.2.2.1 wd_1272 ?_
  obtain ⟨rfl, rfl⟩ := ret2 hf
  exact g_iret (pc := 54) rfl dd_M_harmBy_45.2.2.2.2.1
def f_M_harmBy_0  (a0 : Nat) (a1 : Int32) (a2 : Int32) (a3 : Int32) (a4 : Int32) (a5 : Int32) (a6 : Int32) (a7 : Int32) (h : mH) : Option (Int32 × mH) :=
  if a2 < a5 then
    f_M_harmBy_52  h
  else
    if a3 < a6 then
      f_M_harmBy_52  h
    else
      if a4 < a7 then
        f_M_harmBy_52  h
      else
        bd1 (kC h a0 8) fun _ =>
        bd2 (f_M_roomAt a0 (0 : Int32) a1 h) fun x5 h3 =>
        if x5 < a5 then
          f_M_harmBy_52  h3
        else
          bd1 (kC h3 a0 8) fun _ =>
          bd2 (f_M_roomAt a0 (1 : Int32) a1 h3) fun x10 h8 =>
          if x10 < a6 then
            f_M_harmBy_52  h8
          else
            bd1 (kC h8 a0 8) fun _ =>
            bd2 (f_M_roomAt a0 (2 : Int32) a1 h8) fun x15 h13 =>
            if a7 ≤ x15 then
              bd1 (gR h13 a0 8 5) fun x16 =>
              bd1 (aI h13 0 x16 a1) fun x18 =>
              bd1 (gR h13 a0 8 7) fun x20 =>
              bd1 (aI h13 0 x20 (0 : Int32)) fun x22 =>
              bd1 (gR h13 a0 8 5) fun x24 =>
              bd1 (aI h13 0 x24 a1) fun x26 =>
              bd1 (gR h13 a0 8 7) fun x28 =>
              bd1 (aI h13 0 x28 (1 : Int32)) fun x30 =>
              bd1 (gR h13 a0 8 5) fun x32 =>
              bd1 (aI h13 0 x32 a1) fun x34 =>
              bd1 (gR h13 a0 8 7) fun x36 =>
              bd1 (aI h13 0 x36 (2 : Int32)) fun x38 =>
              bd1 (gR h13 a0 8 27) fun x40 =>
              bd2 (f_M_at (a1 + (1 : Int32)) (a2 - a5) (a3 - a6) (a4 - a7) h13) fun x44 h42 =>
              bd1 (aI h42 0 x40 x44) fun x45 =>
              if x45 = (1000000 : Int32) then
                some ((1000000 : Int32), h42)
              else
                some ((((a5 * (x18 + x22)) + (a6 * (x26 + x30))) + (a7 * (x34 + x38))) + x45, h42)
            else
              f_M_harmBy_52  h13
set_option maxRecDepth 20000 in
theorem t_M_harmBy_0 {sc : Nat × (Nat → Int32)}  (a0 : Nat) (a1 : Int32) (a2 : Int32) (a3 : Int32) (a4 : Int32) (a5 : Int32) (a6 : Int32) (a7 : Int32) (h : mH) (r : Int32) (h' : mH) (hf : f_M_harmBy_0  a0 a1 a2 a3 a4 a5 a6 a7 h = some (r, h')) : G sc y_M_harmBy prog_10_method_55_code 10 (some .int) 3 68 0 [(0, .ref a0), (1, .int a1), (2, .int a2), (3, .int a3), (4, .int a4), (5, .int a5), (6, .int a6), (7, .int a7)] [] h (some (.int r)) h' := by
  unfold f_M_harmBy_0 at hf
  refine g_iload (pc := 0) 5 dd_M_harmBy_0.1 rfl ?_
  refine g_iload_n (pc := 2) 2 dd_M_harmBy_0.2.1 rfl rfl ?_
  refine g_icmpgt (pc := 3) 52 dd_M_harmBy_0.2.2.1 (by decide) (fun c53 => ?_) (fun c53 => ?_)
  · replace hf := (if_pos c53).symm.trans hf
    refine g_lv [] rfl ?_
    exact t_M_harmBy_52  _ _ _  hf
  · replace hf := (if_neg c53).symm.trans hf
    refine g_iload (pc := 6) 6 dd_M_harmBy_0.2.2.2.1 rfl ?_
    refine g_iload_n (pc := 8) 3 dd_M_harmBy_0.2.2.2.2.1 rfl rfl ?_
    refine g_icmpgt (pc := 9) 52 dd_M_harmBy_0.2.2.2.2.2.1 (by decide) (fun c52 => ?_) (fun c52 => ?_)
    · replace hf := (if_pos c52).symm.trans hf
      refine g_lv [] rfl ?_
      exact t_M_harmBy_52  _ _ _  hf
    · replace hf := (if_neg c52).symm.trans hf
      refine g_iload (pc := 12) 7 dd_M_harmBy_0.2.2.2.2.2.2.1 rfl ?_
      refine g_iload (pc := 14) 4 dd_M_harmBy_0.2.2.2.2.2.2.2.1 rfl ?_
      refine g_icmpgt (pc := 16) 52 dd_M_harmBy_0.2.2.2.2.2.2.2.2.1 (by decide) (fun c51 => ?_) (fun c51 => ?_)
      · replace hf := (if_pos c51).symm.trans hf
        refine g_lv [] rfl ?_
        exact t_M_harmBy_52  _ _ _  hf
      · replace hf := (if_neg c51).symm.trans hf
        refine g_iload (pc := 19) 5 dd_M_harmBy_0.2.2.2.2.2.2.2.2.2.1 rfl ?_
        refine g_aload_n (pc := 21) 0 dd_M_harmBy_0.2.2.2.2.2.2.2.2.2.2.1 rfl rfl ?_
        refine g_iconst (pc := 22) (0 : Int32) dd_M_harmBy_0.2.2.2.2.2.2.2.2.2.2.2.1 (by decide) ?_
        refine g_iload_n (pc := 23) 1 dd_M_harmBy_0.2.2.2.2.2.2.2.2.2.2.2.2.1 rfl rfl ?_
        obtain ⟨u2, e1, hf⟩ := bd1_e hf
        obtain ⟨x5, h3, e4, hf⟩ := bd2_e hf
        refine g_callV (pc := 24) (ci := 8) [.int (0 : Int32), .int a1] (site_of si_M_roomAt (by decide) (by decide)) wd_1278 wd_1280 wp_61 dd_M_harmBy_0.2.2.2.2.2.2.2.2.2.2.2.2.2.1 rfl e1 (Nat.le_of_ble_eq_true rfl) (fun z => absurd z si_na_M_roomAt) (fun z => absurd z si_na_M_roomAt) (fun z => absurd z si_na_M_roomAt) (c_M_roomAt e4) rfl ?_
        refine g_st [.int x5, .int a5] rfl ?_
        refine g_icmpgt (pc := 27) 52 dd_M_harmBy_0.2.2.2.2.2.2.2.2.2.2.2.2.2.2.1 (by decide) (fun c50 => ?_) (fun c50 => ?_)
        · replace hf := (if_pos c50).symm.trans hf
          refine g_lv [] rfl ?_
          exact t_M_harmBy_52  _ _ _  hf
        · replace hf := (if_neg c50).symm.trans hf
          refine g_iload (pc := 30) 6 dd_M_harmBy_0.2.2.2.2.2.2.2.2.2.2.2.2.2.2.2.1 rfl ?_
          refine g_aload_n (pc := 32) 0 dd_M_harmBy_0.2.2.2.2.2.2.2.2.2.2.2.2.2.2.2.2.1 rfl rfl ?_
          refine g_iconst (pc := 33) (1 : Int32) dd_M_harmBy_0.2.2.2.2.2.2.2.2.2.2.2.2.2.2.2.2.2.1 (by decide) ?_
          refine g_iload_n (pc := 34) 1 dd_M_harmBy_0.2.2.2.2.2.2.2.2.2.2.2.2.2.2.2.2.2.2.1 rfl rfl ?_
          obtain ⟨u7, e6, hf⟩ := bd1_e hf
          obtain ⟨x10, h8, e9, hf⟩ := bd2_e hf
          refine g_callV (pc := 35) (ci := 8) [.int (1 : Int32), .int a1] (site_of si_M_roomAt (by decide) (by decide)) wd_1278 wd_1280 wp_61 dd_M_harmBy_0.2.2.2.2.2.2.2.2.2.2.2.2.2.2.2.2.2.2.2.1 rfl e6 (Nat.le_of_ble_eq_true rfl) (fun z => absurd z si_na_M_roomAt) (fun z => absurd z si_na_M_roomAt) (fun z => absurd z si_na_M_roomAt) (c_M_roomAt e9) rfl ?_
          refine g_st [.int x10, .int a6] rfl ?_
          refine g_icmpgt (pc := 38) 52 dd_M_harmBy_0.2.2.2.2.2.2.2.2.2.2.2.2.2.2.2.2.2.2.2.2.1 (by decide) (fun c49 => ?_) (fun c49 => ?_)
          · replace hf := (if_pos c49).symm.trans hf
            refine g_lv [] rfl ?_
            exact t_M_harmBy_52  _ _ _  hf
          · replace hf := (if_neg c49).symm.trans hf
            refine g_iload (pc := 41) 7 dd_M_harmBy_0.2.2.2.2.2.2.2.2.2.2.2.2.2.2.2.2.2.2.2.2.2.1 rfl ?_
            refine g_aload_n (pc := 43) 0 dd_M_harmBy_0.2.2.2.2.2.2.2.2.2.2.2.2.2.2.2.2.2.2.2.2.2.2.1 rfl rfl ?_
            refine g_iconst (pc := 44) (2 : Int32) dd_M_harmBy_0.2.2.2.2.2.2.2.2.2.2.2.2.2.2.2.2.2.2.2.2.2.2.2 (by decide) ?_
            refine g_iload_n (pc := 45) 1 dd_M_harmBy_45.1 rfl rfl ?_
            obtain ⟨u12, e11, hf⟩ := bd1_e hf
            obtain ⟨x15, h13, e14, hf⟩ := bd2_e hf
            refine g_callV (pc := 46) (ci := 8) [.int (2 : Int32), .int a1] (site_of si_M_roomAt (by decide) (by decide)) wd_1278 wd_1280 wp_61 dd_M_harmBy_45.2.1 rfl e11 (Nat.le_of_ble_eq_true rfl) (fun z => absurd z si_na_M_roomAt) (fun z => absurd z si_na_M_roomAt) (fun z => absurd z si_na_M_roomAt) (c_M_roomAt e14) rfl ?_
            refine g_st [.int x15, .int a7] rfl ?_
            refine g_icmple (pc := 49) 55 dd_M_harmBy_45.2.2.1 (by decide) (fun c48 => ?_) (fun c48 => ?_)
            · replace hf := (if_pos c48).symm.trans hf
              refine g_iload (pc := 55) 5 dd_M_harmBy_45.2.2.2.2.2.1 rfl ?_
              refine g_aload_n (pc := 57) 0 dd_M_harmBy_45.2.2.2.2.2.2.1 rfl rfl ?_
              obtain ⟨x16, e17, hf⟩ := bd1_e hf
              refine g_get (pc := 58) (ci := 8) (kk := 5) dd_M_harmBy_45.2.2.2.2.2.2.2.1 rfl in_M (by decide) wd_943 (gR_spec e17) ?_
              refine g_iload_n (pc := 61) 1 dd_M_harmBy_45.2.2.2.2.2.2.2.2.1 rfl rfl ?_
              obtain ⟨x18, e19, hf⟩ := bd1_e hf
              refine g_iald (pc := 62) dd_M_harmBy_45.2.2.2.2.2.2.2.2.2.1 e19 ?_
              refine g_aload_n (pc := 63) 0 dd_M_harmBy_45.2.2.2.2.2.2.2.2.2.2.1 rfl rfl ?_
              obtain ⟨x20, e21, hf⟩ := bd1_e hf
              refine g_get (pc := 64) (ci := 8) (kk := 7) dd_M_harmBy_45.2.2.2.2.2.2.2.2.2.2.2.1 rfl in_M (by decide) wd_945 (gR_spec e21) ?_
              refine g_iconst (pc := 67) (0 : Int32) dd_M_harmBy_45.2.2.2.2.2.2.2.2.2.2.2.2.1 (by decide) ?_
              obtain ⟨x22, e23, hf⟩ := bd1_e hf
              refine g_iald (pc := 68) dd_M_harmBy_45.2.2.2.2.2.2.2.2.2.2.2.2.2.1 e23 ?_
              refine g_iadd (pc := 69) dd_M_harmBy_45.2.2.2.2.2.2.2.2.2.2.2.2.2.2.1 ?_
              refine g_imul (pc := 70) dd_M_harmBy_45.2.2.2.2.2.2.2.2.2.2.2.2.2.2.2.1 ?_
              refine g_iload (pc := 71) 6 dd_M_harmBy_45.2.2.2.2.2.2.2.2.2.2.2.2.2.2.2.2.1 rfl ?_
              refine g_aload_n (pc := 73) 0 dd_M_harmBy_45.2.2.2.2.2.2.2.2.2.2.2.2.2.2.2.2.2.1 rfl rfl ?_
              obtain ⟨x24, e25, hf⟩ := bd1_e hf
              refine g_get (pc := 74) (ci := 8) (kk := 5) dd_M_harmBy_45.2.2.2.2.2.2.2.2.2.2.2.2.2.2.2.2.2.2.1 rfl in_M (by decide) wd_943 (gR_spec e25) ?_
              refine g_iload_n (pc := 77) 1 dd_M_harmBy_45.2.2.2.2.2.2.2.2.2.2.2.2.2.2.2.2.2.2.2.1 rfl rfl ?_
              obtain ⟨x26, e27, hf⟩ := bd1_e hf
              refine g_iald (pc := 78) dd_M_harmBy_45.2.2.2.2.2.2.2.2.2.2.2.2.2.2.2.2.2.2.2.2.1 e27 ?_
              refine g_aload_n (pc := 79) 0 dd_M_harmBy_45.2.2.2.2.2.2.2.2.2.2.2.2.2.2.2.2.2.2.2.2.2.1 rfl rfl ?_
              obtain ⟨x28, e29, hf⟩ := bd1_e hf
              refine g_get (pc := 80) (ci := 8) (kk := 7) dd_M_harmBy_45.2.2.2.2.2.2.2.2.2.2.2.2.2.2.2.2.2.2.2.2.2.2.1 rfl in_M (by decide) wd_945 (gR_spec e29) ?_
              refine g_iconst (pc := 83) (1 : Int32) dd_M_harmBy_45.2.2.2.2.2.2.2.2.2.2.2.2.2.2.2.2.2.2.2.2.2.2.2 (by decide) ?_
              obtain ⟨x30, e31, hf⟩ := bd1_e hf
              refine g_iald (pc := 84) dd_M_harmBy_84.1 e31 ?_
              refine g_iadd (pc := 85) dd_M_harmBy_84.2.1 ?_
              refine g_imul (pc := 86) dd_M_harmBy_84.2.2.1 ?_
              refine g_iadd (pc := 87) dd_M_harmBy_84.2.2.2.1 ?_
              refine g_iload (pc := 88) 7 dd_M_harmBy_84.2.2.2.2.1 rfl ?_
              refine g_aload_n (pc := 90) 0 dd_M_harmBy_84.2.2.2.2.2.1 rfl rfl ?_
              obtain ⟨x32, e33, hf⟩ := bd1_e hf
              refine g_get (pc := 91) (ci := 8) (kk := 5) dd_M_harmBy_84.2.2.2.2.2.2.1 rfl in_M (by decide) wd_943 (gR_spec e33) ?_
              refine g_iload_n (pc := 94) 1 dd_M_harmBy_84.2.2.2.2.2.2.2.1 rfl rfl ?_
              obtain ⟨x34, e35, hf⟩ := bd1_e hf
              refine g_iald (pc := 95) dd_M_harmBy_84.2.2.2.2.2.2.2.2.1 e35 ?_
              refine g_aload_n (pc := 96) 0 dd_M_harmBy_84.2.2.2.2.2.2.2.2.2.1 rfl rfl ?_
              obtain ⟨x36, e37, hf⟩ := bd1_e hf
              refine g_get (pc := 97) (ci := 8) (kk := 7) dd_M_harmBy_84.2.2.2.2.2.2.2.2.2.2.1 rfl in_M (by decide) wd_945 (gR_spec e37) ?_
              refine g_iconst (pc := 100) (2 : Int32) dd_M_harmBy_84.2.2.2.2.2.2.2.2.2.2.2.1 (by decide) ?_
              obtain ⟨x38, e39, hf⟩ := bd1_e hf
              refine g_iald (pc := 101) dd_M_harmBy_84.2.2.2.2.2.2.2.2.2.2.2.2.1 e39 ?_
              refine g_iadd (pc := 102) dd_M_harmBy_84.2.2.2.2.2.2.2.2.2.2.2.2.2.1 ?_
              refine g_imul (pc := 103) dd_M_harmBy_84.2.2.2.2.2.2.2.2.2.2.2.2.2.2.1 ?_
              refine g_iadd (pc := 104) dd_M_harmBy_84.2.2.2.2.2.2.2.2.2.2.2.2.2.2.2.1 ?_
              refine g_istore (pc := 105) [(8, .int (((a5 * (x18 + x22)) + (a6 * (x26 + x30))) + (a7 * (x34 + x38)))), (0, .ref a0), (1, .int a1), (2, .int a2), (3, .int a3), (4, .int a4), (5, .int a5), (6, .int a6), (7, .int a7)] dd_M_harmBy_84.2.2.2.2.2.2.2.2.2.2.2.2.2.2.2.2.1 (Nat.le_of_ble_eq_true rfl) rfl ?_
              refine g_aload_n (pc := 107) 1 dd_M_harmBy_84.2.2.2.2.2.2.2.2.2.2.2.2.2.2.2.2.2.1 rfl rfl ?_
              obtain ⟨x40, e41, hf⟩ := bd1_e hf
              refine g_get (pc := 108) (ci := 8) (kk := 27) dd_M_harmBy_84.2.2.2.2.2.2.2.2.2.2.2.2.2.2.2.2.2.2.1 rfl in_M (by decide) wd_965 (gR_spec e41) ?_
              refine g_iload_n (pc := 111) 2 dd_M_harmBy_84.2.2.2.2.2.2.2.2.2.2.2.2.2.2.2.2.2.2.2.1 rfl rfl ?_
              refine g_iconst (pc := 112) (1 : Int32) dd_M_harmBy_84.2.2.2.2.2.2.2.2.2.2.2.2.2.2.2.2.2.2.2.2.1 (by decide) ?_
              refine g_iadd (pc := 113) dd_M_harmBy_84.2.2.2.2.2.2.2.2.2.2.2.2.2.2.2.2.2.2.2.2.2.1 ?_
              refine g_iload_n (pc := 114) 3 dd_M_harmBy_84.2.2.2.2.2.2.2.2.2.2.2.2.2.2.2.2.2.2.2.2.2.2.1 rfl rfl ?_
              refine g_iload (pc := 115) 6 dd_M_harmBy_84.2.2.2.2.2.2.2.2.2.2.2.2.2.2.2.2.2.2.2.2.2.2.2 rfl ?_
              refine g_isub (pc := 117) dd_M_harmBy_117.1 ?_
              refine g_iload_n (pc := 118) 4 dd_M_harmBy_117.2.1 rfl rfl ?_
              refine g_iload (pc := 119) 7 dd_M_harmBy_117.2.2.1 rfl ?_
              refine g_isub (pc := 121) dd_M_harmBy_117.2.2.2.1 ?_
              refine g_iload (pc := 122) 5 dd_M_harmBy_117.2.2.2.2.1 rfl ?_
              refine g_iload (pc := 124) 8 dd_M_harmBy_117.2.2.2.2.2.1 rfl ?_
              refine g_isub (pc := 126) dd_M_harmBy_117.2.2.2.2.2.2.1 ?_
              obtain ⟨x44, h42, e43, hf⟩ := bd2_e hf
              refine g_callS (pc := 127) [.int (a1 + (1 : Int32)), .int (a2 - a5), .int (a3 - a6), .int (a4 - a7)] (site_of si_M_at (by decide) (by decide)) wd_1265 wd_1266 dd_M_harmBy_117.2.2.2.2.2.2.2.1 (Nat.le_of_ble_eq_true rfl) (fun z => absurd z si_na_M_at) (fun z => absurd z si_na_M_at) (fun z => absurd z si_na_M_at) (c_M_at e43) rfl ?_
              refine g_st [.int x44, .ref x40] rfl ?_
              obtain ⟨x45, e46, hf⟩ := bd1_e hf
              refine g_iald (pc := 130) dd_M_harmBy_117.2.2.2.2.2.2.2.2.1 e46 ?_
              refine g_istore (pc := 131) [(9, .int x45), (8, .int (((a5 * (x18 + x22)) + (a6 * (x26 + x30))) + (a7 * (x34 + x38)))), (0, .ref a0), (1, .int a1), (2, .int a2), (3, .int a3), (4, .int a4), (5, .int a5), (6, .int a6), (7, .int a7)] dd_M_harmBy_117.2.2.2.2.2.2.2.2.2.1 (Nat.le_of_ble_eq_true rfl) rfl ?_
              refine g_iload (pc := 133) 0 dd_M_harmBy_117.2.2.2.2.2.2.2.2.2.2.1 rfl ?_
              refine g_ldc (pc := 135) (1000000 : Int32) dd_M_harmBy_117.2.2.2.2.2.2.2.2.2.2.2.1 wd_1272 ?_
              refine g_icmpne (pc := 137) 145 dd_M_harmBy_117.2.2.2.2.2.2.2.2.2.2.2.2.1 (by decide) (fun c47 => ?_) (fun c47 => ?_)
              · replace hf := (if_neg c47).symm.trans hf
                refine g_iload (pc := 145) 1 dd_M_harmBy_117.2.2.2.2.2.2.2.2.2.2.2.2.2.2.2.1 rfl ?_
                refine g_iload (pc := 147) 0 dd_M_harmBy_117.2.2.2.2.2.2.2.2.2.2.2.2.2.2.2.2.1 rfl ?_
                refine g_iadd (pc := 149) dd_M_harmBy_117.2.2.2.2.2.2.2.2.2.2.2.2.2.2.2.2.2.1 ?_
                obtain ⟨rfl, rfl⟩ := ret2 hf
                exact g_iret (pc := 150) rfl dd_M_harmBy_117.2.2.2.2.2.2.2.2.2.2.2.2.2.2.2.2.2.2
              · replace hf := (if_pos c47).symm.trans hf
                refine g_ldc (pc := 140) (1000000 : Int32) dd_M_harmBy_117.2.2.2.2.2.2.2.2.2.2.2.2.2.1 wd_1272 ?_
                refine g_goto (pc := 142) 150 dd_M_harmBy_117.2.2.2.2.2.2.2.2.2.2.2.2.2.2.1 (by decide) ?_
                obtain ⟨rfl, rfl⟩ := ret2 hf
                exact g_iret (pc := 150) rfl dd_M_harmBy_117.2.2.2.2.2.2.2.2.2.2.2.2.2.2.2.2.2.2
            · replace hf := (if_neg c48).symm.trans hf
              refine g_lv [] rfl ?_
              exact t_M_harmBy_52  _ _ _  hf
def f_M_harmBy (a0 : Nat) (a1 : Int32) (a2 : Int32) (a3 : Int32) (a4 : Int32) (a5 : Int32) (a6 : Int32) (a7 : Int32) (h : mH) : Option (Int32 × mH) := f_M_harmBy_0 a0 a1 a2 a3 a4 a5 a6 a7 h
theorem c_M_harmBy {sc : Nat × (Nat → Int32)} {a0 : Nat} {a1 : Int32} {a2 : Int32} {a3 : Int32} {a4 : Int32} {a5 : Int32} {a6 : Int32} {a7 : Int32} {h : mH} {r : Int32} {h' : mH} (hf : f_M_harmBy a0 a1 a2 a3 a4 a5 a6 a7 h = some (r, h')) : MM sc y_M_harmBy prog_10_method_55_code 10 (some .int) 3 68 [.ref a0, .int a1, .int a2, .int a3, .int a4, .int a5, .int a6, .int a7] h (some (.int r)) h' :=
  mm_of_G si_pn_M (Nat.le_of_ble_eq_true rfl) (t_M_harmBy_0 _ _ _ _ _ _ _ _ _ _ _ hf)
/-! M leastOf (IIII)I -/
set_option maxRecDepth 100000 in
theorem dd_M_leastOf_0 : (decode prog_10_method_56_code 0 = .ok (.ldc 246, 2)) ∧ (decode prog_10_method_56_code 2 = .ok (.istore 5, 2)) ∧ (decode prog_10_method_56_code 4 = .ok (.iconst 0, 1)) ∧ (decode prog_10_method_56_code 5 = .ok (.istore 6, 2)) ∧ (decode prog_10_method_56_code 7 = .ok (.iload 6, 2)) ∧ (decode prog_10_method_56_code 9 = .ok (.iconst 3, 1)) ∧ (decode prog_10_method_56_code 10 = .ok (.if_icmp .gt 89, 3)) ∧ (decode prog_10_method_56_code 13 = .ok (.iconst 0, 1)) ∧ (decode prog_10_method_56_code 14 = .ok (.istore 7, 2)) ∧ (decode prog_10_method_56_code 16 = .ok (.iload 7, 2)) ∧ (decode prog_10_method_56_code 18 = .ok (.iconst 3, 1)) ∧ (decode prog_10_method_56_code 19 = .ok (.if_icmp .gt 74, 3)) ∧ (decode prog_10_method_56_code 22 = .ok (.aload_n 0, 1)) ∧ (decode prog_10_method_56_code 23 = .ok (.getfield 56, 3)) ∧ (decode prog_10_method_56_code 26 = .ok (.iload_n 1, 1)) ∧ (decode prog_10_method_56_code 27 = .ok (.iaload, 1)) ∧ (decode prog_10_method_56_code 28 = .ok (.iload 6, 2)) ∧ (decode prog_10_method_56_code 30 = .ok (.isub, 1)) ∧ (decode prog_10_method_56_code 31 = .ok (.iload 7, 2)) ∧ (decode prog_10_method_56_code 33 = .ok (.isub, 1)) ∧ (decode prog_10_method_56_code 34 = .ok (.istore 8, 2)) ∧ (decode prog_10_method_56_code 36 = .ok (.iload 8, 2)) ∧ (decode prog_10_method_56_code 38 = .ok (.i2l, 1)) ∧ (decode prog_10_method_56_code 39 = .ok (.lconst 0, 1)) := by
  have h : List.drop 0 prog_10_method_56_code.data.toList = 0x12 :: _ := rfl
  refine ⟨zq_k_u1 18 (fun z => .ldc z) 246 h rfl (zq_o_18 _) (by decide +kernel), ?_⟩
  replace h := zq_nx2 (q := 2) h rfl
  refine ⟨zq_k_u1 54 (fun z => .istore z) 5 h rfl (zq_o_54 _) (by decide +kernel), ?_⟩
  replace h := zq_nx2 (q := 4) h rfl
  refine ⟨zq_k_n 3 h rfl (zq_o_3 _), ?_⟩
  replace h := zq_nx1 (q := 5) h rfl
  refine ⟨zq_k_u1 54 (fun z => .istore z) 6 h rfl (zq_o_54 _) (by decide +kernel), ?_⟩
  replace h := zq_nx2 (q := 7) h rfl
  refine ⟨zq_k_u1 21 (fun z => .iload z) 6 h rfl (zq_o_21 _) (by decide +kernel), ?_⟩
  replace h := zq_nx2 (q := 9) h rfl
  refine ⟨zq_k_n 6 h rfl (zq_o_6 _), ?_⟩
  replace h := zq_nx1 (q := 10) h rfl
  refine ⟨zq_k_s2 163 (fun z => .if_icmp .gt z) 89 h rfl (zq_o_163 _) (by decide +kernel), ?_⟩
  replace h := zq_nx3 (q := 13) h rfl
  refine ⟨zq_k_n 3 h rfl (zq_o_3 _), ?_⟩
  replace h := zq_nx1 (q := 14) h rfl
  refine ⟨zq_k_u1 54 (fun z => .istore z) 7 h rfl (zq_o_54 _) (by decide +kernel), ?_⟩
  replace h := zq_nx2 (q := 16) h rfl
  refine ⟨zq_k_u1 21 (fun z => .iload z) 7 h rfl (zq_o_21 _) (by decide +kernel), ?_⟩
  replace h := zq_nx2 (q := 18) h rfl
  refine ⟨zq_k_n 6 h rfl (zq_o_6 _), ?_⟩
  replace h := zq_nx1 (q := 19) h rfl
  refine ⟨zq_k_s2 163 (fun z => .if_icmp .gt z) 74 h rfl (zq_o_163 _) (by decide +kernel), ?_⟩
  replace h := zq_nx3 (q := 22) h rfl
  refine ⟨zq_k_n 42 h rfl (zq_o_42 _), ?_⟩
  replace h := zq_nx1 (q := 23) h rfl
  refine ⟨zq_k_u2 180 (fun z => .getfield z) 56 h rfl (zq_o_180 _) (by decide +kernel), ?_⟩
  replace h := zq_nx3 (q := 26) h rfl
  refine ⟨zq_k_n 27 h rfl (zq_o_27 _), ?_⟩
  replace h := zq_nx1 (q := 27) h rfl
  refine ⟨zq_k_n 46 h rfl (zq_o_46 _), ?_⟩
  replace h := zq_nx1 (q := 28) h rfl
  refine ⟨zq_k_u1 21 (fun z => .iload z) 6 h rfl (zq_o_21 _) (by decide +kernel), ?_⟩
  replace h := zq_nx2 (q := 30) h rfl
  refine ⟨zq_k_n 100 h rfl (zq_o_100 _), ?_⟩
  replace h := zq_nx1 (q := 31) h rfl
  refine ⟨zq_k_u1 21 (fun z => .iload z) 7 h rfl (zq_o_21 _) (by decide +kernel), ?_⟩
  replace h := zq_nx2 (q := 33) h rfl
  refine ⟨zq_k_n 100 h rfl (zq_o_100 _), ?_⟩
  replace h := zq_nx1 (q := 34) h rfl
  refine ⟨zq_k_u1 54 (fun z => .istore z) 8 h rfl (zq_o_54 _) (by decide +kernel), ?_⟩
  replace h := zq_nx2 (q := 36) h rfl
  refine ⟨zq_k_u1 21 (fun z => .iload z) 8 h rfl (zq_o_21 _) (by decide +kernel), ?_⟩
  replace h := zq_nx2 (q := 38) h rfl
  refine ⟨zq_k_n 133 h rfl (zq_o_133 _), ?_⟩
  replace h := zq_nx1 (q := 39) h rfl
  exact zq_k_n 9 h rfl (zq_o_9 _)
set_option maxRecDepth 100000 in
theorem dd_M_leastOf_40 : (decode prog_10_method_56_code 40 = .ok (.ldc2_w 251, 3)) ∧ (decode prog_10_method_56_code 43 = .ok (.invokestatic 114, 3)) ∧ (decode prog_10_method_56_code 46 = .ok (.ifCond .eq 21, 3)) ∧ (decode prog_10_method_56_code 49 = .ok (.aload_n 0, 1)) ∧ (decode prog_10_method_56_code 50 = .ok (.iload_n 1, 1)) ∧ (decode prog_10_method_56_code 51 = .ok (.iload_n 2, 1)) ∧ (decode prog_10_method_56_code 52 = .ok (.iload_n 3, 1)) ∧ (decode prog_10_method_56_code 53 = .ok (.iload 4, 2)) ∧ (decode prog_10_method_56_code 55 = .ok (.iload 6, 2)) ∧ (decode prog_10_method_56_code 57 = .ok (.iload 7, 2)) ∧ (decode prog_10_method_56_code 59 = .ok (.iload 8, 2)) ∧ (decode prog_10_method_56_code 61 = .ok (.invokevirtual 253, 3)) ∧ (decode prog_10_method_56_code 64 = .ok (.goto 5, 3)) ∧ (decode prog_10_method_56_code 67 = .ok (.ldc 246, 2)) ∧ (decode prog_10_method_56_code 69 = .ok (.istore 9, 2)) ∧ (decode prog_10_method_56_code 71 = .ok (.iload 9, 2)) ∧ (decode prog_10_method_56_code 73 = .ok (.iload 5, 2)) ∧ (decode prog_10_method_56_code 75 = .ok (.if_icmp .ge 8, 3)) ∧ (decode prog_10_method_56_code 78 = .ok (.iload 9, 2)) ∧ (decode prog_10_method_56_code 80 = .ok (.goto 5, 3)) ∧ (decode prog_10_method_56_code 83 = .ok (.iload 5, 2)) ∧ (decode prog_10_method_56_code 85 = .ok (.istore 5, 2)) ∧ (decode prog_10_method_56_code 87 = .ok (.iinc 7 1, 3)) ∧ (decode prog_10_method_56_code 90 = .ok (.goto (-74), 3)) := by
  have h : List.drop 40 prog_10_method_56_code.data.toList = 0x14 :: _ := rfl
  refine ⟨zq_k_u2 20 (fun z => .ldc2_w z) 251 h rfl (zq_o_20 _) (by decide +kernel), ?_⟩
  replace h := zq_nx3 (q := 43) h rfl
  refine ⟨zq_k_u2 184 (fun z => .invokestatic z) 114 h rfl (zq_o_184 _) (by decide +kernel), ?_⟩
  replace h := zq_nx3 (q := 46) h rfl
  refine ⟨zq_k_s2 153 (fun z => .ifCond .eq z) 21 h rfl (zq_o_153 _) (by decide +kernel), ?_⟩
  replace h := zq_nx3 (q := 49) h rfl
  refine ⟨zq_k_n 42 h rfl (zq_o_42 _), ?_⟩
  replace h := zq_nx1 (q := 50) h rfl
  refine ⟨zq_k_n 27 h rfl (zq_o_27 _), ?_⟩
  replace h := zq_nx1 (q := 51) h rfl
  refine ⟨zq_k_n 28 h rfl (zq_o_28 _), ?_⟩
  replace h := zq_nx1 (q := 52) h rfl
  refine ⟨zq_k_n 29 h rfl (zq_o_29 _), ?_⟩
  replace h := zq_nx1 (q := 53) h rfl
  refine ⟨zq_k_u1 21 (fun z => .iload z) 4 h rfl (zq_o_21 _) (by decide +kernel), ?_⟩
  replace h := zq_nx2 (q := 55) h rfl
  refine ⟨zq_k_u1 21 (fun z => .iload z) 6 h rfl (zq_o_21 _) (by decide +kernel), ?_⟩
  replace h := zq_nx2 (q := 57) h rfl
  refine ⟨zq_k_u1 21 (fun z => .iload z) 7 h rfl (zq_o_21 _) (by decide +kernel), ?_⟩
  replace h := zq_nx2 (q := 59) h rfl
  refine ⟨zq_k_u1 21 (fun z => .iload z) 8 h rfl (zq_o_21 _) (by decide +kernel), ?_⟩
  replace h := zq_nx2 (q := 61) h rfl
  refine ⟨zq_k_u2 182 (fun z => .invokevirtual z) 253 h rfl (zq_o_182 _) (by decide +kernel), ?_⟩
  replace h := zq_nx3 (q := 64) h rfl
  refine ⟨zq_k_s2 167 (fun z => .goto z) 5 h rfl (zq_o_167 _) (by decide +kernel), ?_⟩
  replace h := zq_nx3 (q := 67) h rfl
  refine ⟨zq_k_u1 18 (fun z => .ldc z) 246 h rfl (zq_o_18 _) (by decide +kernel), ?_⟩
  replace h := zq_nx2 (q := 69) h rfl
  refine ⟨zq_k_u1 54 (fun z => .istore z) 9 h rfl (zq_o_54 _) (by decide +kernel), ?_⟩
  replace h := zq_nx2 (q := 71) h rfl
  refine ⟨zq_k_u1 21 (fun z => .iload z) 9 h rfl (zq_o_21 _) (by decide +kernel), ?_⟩
  replace h := zq_nx2 (q := 73) h rfl
  refine ⟨zq_k_u1 21 (fun z => .iload z) 5 h rfl (zq_o_21 _) (by decide +kernel), ?_⟩
  replace h := zq_nx2 (q := 75) h rfl
  refine ⟨zq_k_s2 162 (fun z => .if_icmp .ge z) 8 h rfl (zq_o_162 _) (by decide +kernel), ?_⟩
  replace h := zq_nx3 (q := 78) h rfl
  refine ⟨zq_k_u1 21 (fun z => .iload z) 9 h rfl (zq_o_21 _) (by decide +kernel), ?_⟩
  replace h := zq_nx2 (q := 80) h rfl
  refine ⟨zq_k_s2 167 (fun z => .goto z) 5 h rfl (zq_o_167 _) (by decide +kernel), ?_⟩
  replace h := zq_nx3 (q := 83) h rfl
  refine ⟨zq_k_u1 21 (fun z => .iload z) 5 h rfl (zq_o_21 _) (by decide +kernel), ?_⟩
  replace h := zq_nx2 (q := 85) h rfl
  refine ⟨zq_k_u1 54 (fun z => .istore z) 5 h rfl (zq_o_54 _) (by decide +kernel), ?_⟩
  replace h := zq_nx2 (q := 87) h rfl
  refine ⟨zq_k_iinc 7 1 h rfl (zq_o_132 _) (by decide +kernel) (by decide +kernel), ?_⟩
  replace h := zq_nx3 (q := 90) h rfl
  exact zq_k_s2 167 (fun z => .goto z) (-74) h rfl (zq_o_167 _) (by decide +kernel)
set_option maxRecDepth 100000 in
theorem dd_M_leastOf_93 : (decode prog_10_method_56_code 93 = .ok (.iinc 6 1, 3)) ∧ (decode prog_10_method_56_code 96 = .ok (.goto (-89), 3)) ∧ (decode prog_10_method_56_code 99 = .ok (.iload 5, 2)) ∧ (decode prog_10_method_56_code 101 = .ok (.ireturn, 1)) := by
  have h : List.drop 93 prog_10_method_56_code.data.toList = 0x84 :: _ := rfl
  refine ⟨zq_k_iinc 6 1 h rfl (zq_o_132 _) (by decide +kernel) (by decide +kernel), ?_⟩
  replace h := zq_nx3 (q := 96) h rfl
  refine ⟨zq_k_s2 167 (fun z => .goto z) (-89) h rfl (zq_o_167 _) (by decide +kernel), ?_⟩
  replace h := zq_nx3 (q := 99) h rfl
  refine ⟨zq_k_u1 21 (fun z => .iload z) 5 h rfl (zq_o_21 _) (by decide +kernel), ?_⟩
  replace h := zq_nx2 (q := 101) h rfl
  exact zq_k_n 172 h rfl (zq_o_172 _)
def f_M_leastOf_85 (rec7 : Nat → Int32 → Int32 → Int32 → Int32 → Int32 → Int32 → mH → Option (Int32 × mH)) (rec16 : Nat → Int32 → Int32 → Int32 → Int32 → Int32 → Int32 → Int32 → mH → Option (Int32 × mH)) (b0 : Nat) (b1 : Int32) (b2 : Int32) (b3 : Int32) (b4 : Int32) (b6 : Int32) (b7 : Int32) (s0 : Int32) (h : mH) : Option (Int32 × mH) :=
  rec16 b0 b1 b2 b3 b4 s0 b6 (b7 + (1 : Int32)) h
set_option maxRecDepth 20000 in
theorem t_M_leastOf_85 {sc : Nat × (Nat → Int32)} (rec7 : Nat → Int32 → Int32 → Int32 → Int32 → Int32 → Int32 → mH → Option (Int32 × mH)) (hrec7 : ∀ (b0 : Nat) (b1 : Int32) (b2 : Int32) (b3 : Int32) (b4 : Int32) (b5 : Int32) (b6 : Int32) (h : mH) (r : Int32) (h' : mH), rec7 b0 b1 b2 b3 b4 b5 b6 h = some (r, h') → G sc y_M_leastOf prog_10_method_56_code 10 (some .int) 4 97 7 [(0, .ref b0), (1, .int b1), (2, .int b2), (3, .int b3), (4, .int b4), (5, .int b5), (6, .int b6)] [] h (some (.int r)) h') (rec16 : Nat → Int32 → Int32 → Int32 → Int32 → Int32 → Int32 → Int32 → mH → Option (Int32 × mH)) (hrec16 : ∀ (b0 : Nat) (b1 : Int32) (b2 : Int32) (b3 : Int32) (b4 : Int32) (b5 : Int32) (b6 : Int32) (b7 : Int32) (h : mH) (r : Int32) (h' : mH), rec16 b0 b1 b2 b3 b4 b5 b6 b7 h = some (r, h') → G sc y_M_leastOf prog_10_method_56_code 10 (some .int) 4 97 16 [(0, .ref b0), (1, .int b1), (2, .int b2), (3, .int b3), (4, .int b4), (5, .int b5), (6, .int b6), (7, .int b7)] [] h (some (.int r)) h') (b0 : Nat) (b1 : Int32) (b2 : Int32) (b3 : Int32) (b4 : Int32) (b6 : Int32) (b7 : Int32) (s0 : Int32) (h : mH) (r : Int32) (h' : mH) (hf : f_M_leastOf_85 rec7 rec16 b0 b1 b2 b3 b4 b6 b7 s0 h = some (r, h')) : G sc y_M_leastOf prog_10_method_56_code 10 (some .int) 4 97 85 [(0, .ref b0), (1, .int b1), (2, .int b2), (3, .int b3), (4, .int b4), (6, .int b6), (7, .int b7)] [.int s0] h (some (.int r)) h' := by
  unfold f_M_leastOf_85 at hf
  refine g_istore (pc := 85) [(5, .int s0), (0, .ref b0), (1, .int b1), (2, .int b2), (3, .int b3), (4, .int b4), (6, .int b6), (7, .int b7)] dd_M_leastOf_40.2.2.2.2.2.2.2.2.2.2.2.2.2.2.2.2.2.2.2.2.2.1 (Nat.le_of_ble_eq_true rfl) rfl ?_
  refine g_iinc (pc := 87) 7 (b7 + (1 : Int32)) [(7, .int (b7 + (1 : Int32))), (5, .int s0), (0, .ref b0), (1, .int b1), (2, .int b2), (3, .int b3), (4, .int b4), (6, .int b6)] dd_M_leastOf_40.2.2.2.2.2.2.2.2.2.2.2.2.2.2.2.2.2.2.2.2.2.2.1 rfl rfl (Nat.le_of_ble_eq_true rfl) rfl ?_
  refine g_goto (pc := 90) 16 dd_M_leastOf_40.2.2.2.2.2.2.2.2.2.2.2.2.2.2.2.2.2.2.2.2.2.2.2 (by decide) ?_
  refine g_lv [2, 3, 4, 5, 6, 1, 7, 0] rfl ?_
  exact hrec16 _ _ _ _ _ _ _ _ _ _ _  hf
def f_M_leastOf_69 (rec7 : Nat → Int32 → Int32 → Int32 → Int32 → Int32 → Int32 → mH → Option (Int32 × mH)) (rec16 : Nat → Int32 → Int32 → Int32 → Int32 → Int32 → Int32 → Int32 → mH → Option (Int32 × mH)) (b0 : Nat) (b1 : Int32) (b2 : Int32) (b3 : Int32) (b4 : Int32) (b5 : Int32) (b6 : Int32) (b7 : Int32) (s0 : Int32) (h : mH) : Option (Int32 × mH) :=
  if b5 ≤ s0 then
    f_M_leastOf_85 rec7 rec16 b0 b1 b2 b3 b4 b6 b7 b5 h
  else
    f_M_leastOf_85 rec7 rec16 b0 b1 b2 b3 b4 b6 b7 s0 h
set_option maxRecDepth 20000 in
theorem t_M_leastOf_69 {sc : Nat × (Nat → Int32)} (rec7 : Nat → Int32 → Int32 → Int32 → Int32 → Int32 → Int32 → mH → Option (Int32 × mH)) (hrec7 : ∀ (b0 : Nat) (b1 : Int32) (b2 : Int32) (b3 : Int32) (b4 : Int32) (b5 : Int32) (b6 : Int32) (h : mH) (r : Int32) (h' : mH), rec7 b0 b1 b2 b3 b4 b5 b6 h = some (r, h') → G sc y_M_leastOf prog_10_method_56_code 10 (some .int) 4 97 7 [(0, .ref b0), (1, .int b1), (2, .int b2), (3, .int b3), (4, .int b4), (5, .int b5), (6, .int b6)] [] h (some (.int r)) h') (rec16 : Nat → Int32 → Int32 → Int32 → Int32 → Int32 → Int32 → Int32 → mH → Option (Int32 × mH)) (hrec16 : ∀ (b0 : Nat) (b1 : Int32) (b2 : Int32) (b3 : Int32) (b4 : Int32) (b5 : Int32) (b6 : Int32) (b7 : Int32) (h : mH) (r : Int32) (h' : mH), rec16 b0 b1 b2 b3 b4 b5 b6 b7 h = some (r, h') → G sc y_M_leastOf prog_10_method_56_code 10 (some .int) 4 97 16 [(0, .ref b0), (1, .int b1), (2, .int b2), (3, .int b3), (4, .int b4), (5, .int b5), (6, .int b6), (7, .int b7)] [] h (some (.int r)) h') (b0 : Nat) (b1 : Int32) (b2 : Int32) (b3 : Int32) (b4 : Int32) (b5 : Int32) (b6 : Int32) (b7 : Int32) (s0 : Int32) (h : mH) (r : Int32) (h' : mH) (hf : f_M_leastOf_69 rec7 rec16 b0 b1 b2 b3 b4 b5 b6 b7 s0 h = some (r, h')) : G sc y_M_leastOf prog_10_method_56_code 10 (some .int) 4 97 69 [(0, .ref b0), (1, .int b1), (2, .int b2), (3, .int b3), (4, .int b4), (5, .int b5), (6, .int b6), (7, .int b7)] [.int s0] h (some (.int r)) h' := by
  unfold f_M_leastOf_69 at hf
  refine g_istore (pc := 69) [(9, .int s0), (0, .ref b0), (1, .int b1), (2, .int b2), (3, .int b3), (4, .int b4), (5, .int b5), (6, .int b6), (7, .int b7)] dd_M_leastOf_40.2.2.2.2.2.2.2.2.2.2.2.2.2.2.1 (Nat.le_of_ble_eq_true rfl) rfl ?_
  refine g_iload (pc := 71) 0 dd_M_leastOf_40.2.2.2.2.2.2.2.2.2.2.2.2.2.2.2.1 rfl ?_
  refine g_iload (pc := 73) 6 dd_M_leastOf_40.2.2.2.2.2.2.2.2.2.2.2.2.2.2.2.2.1 rfl ?_
  refine g_icmpge (pc := 75) 83 dd_M_leastOf_40.2.2.2.2.2.2.2.2.2.2.2.2.2.2.2.2.2.1 (by decide) (fun c16 => ?_) (fun c16 => ?_)
  · replace hf := (if_pos c16).symm.trans hf
    refine g_iload (pc := 83) 6 dd_M_leastOf_40.2.2.2.2.2.2.2.2.2.2.2.2.2.2.2.2.2.2.2.2.1 rfl ?_
    refine g_lv [1, 2, 3, 4, 5, 7, 8] rfl ?_
    exact t_M_leastOf_85 rec7 hrec7 rec16 hrec16 _ _ _ _ _ _ _ _ _ _ _  hf
  · replace hf := (if_neg c16).symm.trans hf
    refine g_iload (pc := 78) 0 dd_M_leastOf_40.2.2.2.2.2.2.2.2.2.2.2.2.2.2.2.2.2.2.1 rfl ?_
    refine g_goto (pc := 80) 85 dd_M_leastOf_40.2.2.2.2.2.2.2.2.2.2.2.2.2.2.2.2.2.2.2.1 (by decide) ?_
    refine g_lv [1, 2, 3, 4, 5, 7, 8] rfl ?_
    exact t_M_leastOf_85 rec7 hrec7 rec16 hrec16 _ _ _ _ _ _ _ _ _ _ _  hf
def f_M_leastOf_16b (rec7 : Nat → Int32 → Int32 → Int32 → Int32 → Int32 → Int32 → mH → Option (Int32 × mH)) (rec16 : Nat → Int32 → Int32 → Int32 → Int32 → Int32 → Int32 → Int32 → mH → Option (Int32 × mH)) (b0 : Nat) (b1 : Int32) (b2 : Int32) (b3 : Int32) (b4 : Int32) (b5 : Int32) (b6 : Int32) (b7 : Int32) (h : mH) : Option (Int32 × mH) :=
  if (3 : Int32) < b7 then
    rec7 b0 b1 b2 b3 b4 b5 (b6 + (1 : Int32)) h
  else
    bd1 (gR h b0 8 28) fun x2 =>
    bd1 (aI h 0 x2 b1) fun x4 =>
    bd2 (f_M_in (((x4 - b6) - b7).toInt64) (0 : Int64) (3 : Int64) h) fun x8 h6 =>
    if x8 = 0 then
      f_M_leastOf_69 rec7 rec16 b0 b1 b2 b3 b4 b5 b6 b7 (1000000 : Int32) h6
    else
      bd1 (kC h6 b0 8) fun _ =>
      bd2 (f_M_harmBy b0 b1 b2 b3 b4 b6 b7 ((x4 - b6) - b7) h6) fun x13 h11 =>
      f_M_leastOf_69 rec7 rec16 b0 b1 b2 b3 b4 b5 b6 b7 x13 h11
set_option maxRecDepth 20000 in
theorem t_M_leastOf_16b {sc : Nat × (Nat → Int32)} (rec7 : Nat → Int32 → Int32 → Int32 → Int32 → Int32 → Int32 → mH → Option (Int32 × mH)) (hrec7 : ∀ (b0 : Nat) (b1 : Int32) (b2 : Int32) (b3 : Int32) (b4 : Int32) (b5 : Int32) (b6 : Int32) (h : mH) (r : Int32) (h' : mH), rec7 b0 b1 b2 b3 b4 b5 b6 h = some (r, h') → G sc y_M_leastOf prog_10_method_56_code 10 (some .int) 4 97 7 [(0, .ref b0), (1, .int b1), (2, .int b2), (3, .int b3), (4, .int b4), (5, .int b5), (6, .int b6)] [] h (some (.int r)) h') (rec16 : Nat → Int32 → Int32 → Int32 → Int32 → Int32 → Int32 → Int32 → mH → Option (Int32 × mH)) (hrec16 : ∀ (b0 : Nat) (b1 : Int32) (b2 : Int32) (b3 : Int32) (b4 : Int32) (b5 : Int32) (b6 : Int32) (b7 : Int32) (h : mH) (r : Int32) (h' : mH), rec16 b0 b1 b2 b3 b4 b5 b6 b7 h = some (r, h') → G sc y_M_leastOf prog_10_method_56_code 10 (some .int) 4 97 16 [(0, .ref b0), (1, .int b1), (2, .int b2), (3, .int b3), (4, .int b4), (5, .int b5), (6, .int b6), (7, .int b7)] [] h (some (.int r)) h') (b0 : Nat) (b1 : Int32) (b2 : Int32) (b3 : Int32) (b4 : Int32) (b5 : Int32) (b6 : Int32) (b7 : Int32) (h : mH) (r : Int32) (h' : mH) (hf : f_M_leastOf_16b rec7 rec16 b0 b1 b2 b3 b4 b5 b6 b7 h = some (r, h')) : G sc y_M_leastOf prog_10_method_56_code 10 (some .int) 4 97 16 [(0, .ref b0), (1, .int b1), (2, .int b2), (3, .int b3), (4, .int b4), (5, .int b5), (6, .int b6), (7, .int b7)] [] h (some (.int r)) h' := by
  unfold f_M_leastOf_16b at hf
  refine g_iload (pc := 16) 7 dd_M_leastOf_0.2.2.2.2.2.2.2.2.2.1 rfl ?_
  refine g_iconst (pc := 18) (3 : Int32) dd_M_leastOf_0.2.2.2.2.2.2.2.2.2.2.1 (by decide) ?_
  refine g_icmpgt (pc := 19) 93 dd_M_leastOf_0.2.2.2.2.2.2.2.2.2.2.2.1 (by decide) (fun c15 => ?_) (fun c15 => ?_)
  · replace hf := (if_pos c15).symm.trans hf
    refine g_iinc (pc := 93) 6 (b6 + (1 : Int32)) [(6, .int (b6 + (1 : Int32))), (0, .ref b0), (1, .int b1), (2, .int b2), (3, .int b3), (4, .int b4), (5, .int b5), (7, .int b7)] dd_M_leastOf_93.1 rfl rfl (Nat.le_of_ble_eq_true rfl) rfl ?_
    refine g_goto (pc := 96) 7 dd_M_leastOf_93.2.1 (by decide) ?_
    refine g_lv [1, 2, 3, 4, 5, 6, 0] rfl ?_
    exact hrec7 _ _ _ _ _ _ _ _ _ _  hf
  · replace hf := (if_neg c15).symm.trans hf
    refine g_aload_n (pc := 22) 0 dd_M_leastOf_0.2.2.2.2.2.2.2.2.2.2.2.2.1 rfl rfl ?_
    obtain ⟨x2, e3, hf⟩ := bd1_e hf
    refine g_get (pc := 23) (ci := 8) (kk := 28) dd_M_leastOf_0.2.2.2.2.2.2.2.2.2.2.2.2.2.1 rfl in_M (by decide) wd_966 (gR_spec e3) ?_
    refine g_iload_n (pc := 26) 1 dd_M_leastOf_0.2.2.2.2.2.2.2.2.2.2.2.2.2.2.1 rfl rfl ?_
    obtain ⟨x4, e5, hf⟩ := bd1_e hf
    refine g_iald (pc := 27) dd_M_leastOf_0.2.2.2.2.2.2.2.2.2.2.2.2.2.2.2.1 e5 ?_
    refine g_iload (pc := 28) 6 dd_M_leastOf_0.2.2.2.2.2.2.2.2.2.2.2.2.2.2.2.2.1 rfl ?_
    refine g_isub (pc := 30) dd_M_leastOf_0.2.2.2.2.2.2.2.2.2.2.2.2.2.2.2.2.2.1 ?_
    refine g_iload (pc := 31) 7 dd_M_leastOf_0.2.2.2.2.2.2.2.2.2.2.2.2.2.2.2.2.2.2.1 rfl ?_
    refine g_isub (pc := 33) dd_M_leastOf_0.2.2.2.2.2.2.2.2.2.2.2.2.2.2.2.2.2.2.2.1 ?_
    refine g_istore (pc := 34) [(8, .int ((x4 - b6) - b7)), (0, .ref b0), (1, .int b1), (2, .int b2), (3, .int b3), (4, .int b4), (5, .int b5), (6, .int b6), (7, .int b7)] dd_M_leastOf_0.2.2.2.2.2.2.2.2.2.2.2.2.2.2.2.2.2.2.2.2.1 (Nat.le_of_ble_eq_true rfl) rfl ?_
    refine g_iload (pc := 36) 0 dd_M_leastOf_0.2.2.2.2.2.2.2.2.2.2.2.2.2.2.2.2.2.2.2.2.2.1 rfl ?_
    refine g_i2l (pc := 38) dd_M_leastOf_0.2.2.2.2.2.2.2.2.2.2.2.2.2.2.2.2.2.2.2.2.2.2.1 ?_
    refine g_lconst (pc := 39) (0 : Int64) dd_M_leastOf_0.2.2.2.2.2.2.2.2.2.2.2.2.2.2.2.2.2.2.2.2.2.2.2 (by decide) ?_
    refine g_ldc2 (pc := 40) (3 : Int64) dd_M_leastOf_40.1 wd_1273 ?_
    obtain ⟨x8, h6, e7, hf⟩ := bd2_e hf
    refine g_callS (pc := 43) [.long (((x4 - b6) - b7).toInt64), .long (0 : Int64), .long (3 : Int64)] (site_of si_M_in (by decide) (by decide)) wd_1061 wd_1062 dd_M_leastOf_40.2.1 (Nat.le_of_ble_eq_true rfl) (fun z => absurd z si_na_M_in) (fun z => absurd z si_na_M_in) (fun z => absurd z si_na_M_in) (c_M_in e7) rfl ?_
    refine g_st [.int x8] rfl ?_
    refine g_ifeq (pc := 46) 67 dd_M_leastOf_40.2.2.1 (by decide) (fun c14 => ?_) (fun c14 => ?_)
    · replace hf := (if_pos c14).symm.trans hf
      refine g_ldc (pc := 67) (1000000 : Int32) dd_M_leastOf_40.2.2.2.2.2.2.2.2.2.2.2.2.2.1 wd_1272 ?_
      refine g_lv [1, 2, 3, 4, 5, 6, 7, 8] rfl ?_
      exact t_M_leastOf_69 rec7 hrec7 rec16 hrec16 _ _ _ _ _ _ _ _ _ _ _ _  hf
    · replace hf := (if_neg c14).symm.trans hf
      refine g_aload_n (pc := 49) 1 dd_M_leastOf_40.2.2.2.1 rfl rfl ?_
      refine g_iload_n (pc := 50) 2 dd_M_leastOf_40.2.2.2.2.1 rfl rfl ?_
      refine g_iload_n (pc := 51) 3 dd_M_leastOf_40.2.2.2.2.2.1 rfl rfl ?_
      refine g_iload_n (pc := 52) 4 dd_M_leastOf_40.2.2.2.2.2.2.1 rfl rfl ?_
      refine g_iload (pc := 53) 5 dd_M_leastOf_40.2.2.2.2.2.2.2.1 rfl ?_
      refine g_iload (pc := 55) 7 dd_M_leastOf_40.2.2.2.2.2.2.2.2.1 rfl ?_
      refine g_iload (pc := 57) 8 dd_M_leastOf_40.2.2.2.2.2.2.2.2.2.1 rfl ?_
      refine g_iload (pc := 59) 0 dd_M_leastOf_40.2.2.2.2.2.2.2.2.2.2.1 rfl ?_
      obtain ⟨u10, e9, hf⟩ := bd1_e hf
      obtain ⟨x13, h11, e12, hf⟩ := bd2_e hf
      refine g_callV (pc := 61) (ci := 8) [.int b1, .int b2, .int b3, .int b4, .int b6, .int b7, .int ((x4 - b6) - b7)] (site_of si_M_harmBy (by decide) (by decide)) wd_1274 wd_1276 wp_60 dd_M_leastOf_40.2.2.2.2.2.2.2.2.2.2.2.1 rfl e9 (Nat.le_of_ble_eq_true rfl) (fun z => absurd z si_na_M_harmBy) (fun z => absurd z si_na_M_harmBy) (fun z => absurd z si_na_M_harmBy) (c_M_harmBy e12) rfl ?_
      refine g_st [.int x13] rfl ?_
      refine g_goto (pc := 64) 69 dd_M_leastOf_40.2.2.2.2.2.2.2.2.2.2.2.2.1 (by decide) ?_
      refine g_lv [1, 2, 3, 4, 5, 6, 7, 8] rfl ?_
      exact t_M_leastOf_69 rec7 hrec7 rec16 hrec16 _ _ _ _ _ _ _ _ _ _ _ _  hf
def f_M_leastOf_16 (rec7 : Nat → Int32 → Int32 → Int32 → Int32 → Int32 → Int32 → mH → Option (Int32 × mH)) : Nat → Nat → Int32 → Int32 → Int32 → Int32 → Int32 → Int32 → Int32 → mH → Option (Int32 × mH)
  | 0 => fun _ _ _ _ _ _ _ _ _ => none
  | n + 1 => f_M_leastOf_16b rec7 (f_M_leastOf_16 rec7 n)
theorem t_M_leastOf_16 {sc : Nat × (Nat → Int32)} (rec7 : Nat → Int32 → Int32 → Int32 → Int32 → Int32 → Int32 → mH → Option (Int32 × mH)) (hrec7 : ∀ (b0 : Nat) (b1 : Int32) (b2 : Int32) (b3 : Int32) (b4 : Int32) (b5 : Int32) (b6 : Int32) (h : mH) (r : Int32) (h' : mH), rec7 b0 b1 b2 b3 b4 b5 b6 h = some (r, h') → G sc y_M_leastOf prog_10_method_56_code 10 (some .int) 4 97 7 [(0, .ref b0), (1, .int b1), (2, .int b2), (3, .int b3), (4, .int b4), (5, .int b5), (6, .int b6)] [] h (some (.int r)) h') : ∀ (n : Nat) (b0 : Nat) (b1 : Int32) (b2 : Int32) (b3 : Int32) (b4 : Int32) (b5 : Int32) (b6 : Int32) (b7 : Int32) (h : mH) (r : Int32) (h' : mH) (hf : f_M_leastOf_16 rec7 n b0 b1 b2 b3 b4 b5 b6 b7 h = some (r, h')), G sc y_M_leastOf prog_10_method_56_code 10 (some .int) 4 97 16 [(0, .ref b0), (1, .int b1), (2, .int b2), (3, .int b3), (4, .int b4), (5, .int b5), (6, .int b6), (7, .int b7)] [] h (some (.int r)) h'
  | 0, _, _, _, _, _, _, _, _, _, _, _, hf => by cases hf
  | n + 1, _, _, _, _, _, _, _, _, _, _, _, hf => t_M_leastOf_16b rec7 hrec7 (f_M_leastOf_16 rec7 n) (t_M_leastOf_16 rec7 hrec7 n) _ _ _ _ _ _ _ _ _ _ _ hf
def f_M_leastOf_7b (rec7 : Nat → Int32 → Int32 → Int32 → Int32 → Int32 → Int32 → mH → Option (Int32 × mH)) (b0 : Nat) (b1 : Int32) (b2 : Int32) (b3 : Int32) (b4 : Int32) (b5 : Int32) (b6 : Int32) (h : mH) : Option (Int32 × mH) :=
  if (3 : Int32) < b6 then
    some (b5, h)
  else
    f_M_leastOf_16 rec7 FU b0 b1 b2 b3 b4 b5 b6 (0 : Int32) h
set_option maxRecDepth 20000 in
theorem t_M_leastOf_7b {sc : Nat × (Nat → Int32)} (rec7 : Nat → Int32 → Int32 → Int32 → Int32 → Int32 → Int32 → mH → Option (Int32 × mH)) (hrec7 : ∀ (b0 : Nat) (b1 : Int32) (b2 : Int32) (b3 : Int32) (b4 : Int32) (b5 : Int32) (b6 : Int32) (h : mH) (r : Int32) (h' : mH), rec7 b0 b1 b2 b3 b4 b5 b6 h = some (r, h') → G sc y_M_leastOf prog_10_method_56_code 10 (some .int) 4 97 7 [(0, .ref b0), (1, .int b1), (2, .int b2), (3, .int b3), (4, .int b4), (5, .int b5), (6, .int b6)] [] h (some (.int r)) h') (b0 : Nat) (b1 : Int32) (b2 : Int32) (b3 : Int32) (b4 : Int32) (b5 : Int32) (b6 : Int32) (h : mH) (r : Int32) (h' : mH) (hf : f_M_leastOf_7b rec7 b0 b1 b2 b3 b4 b5 b6 h = some (r, h')) : G sc y_M_leastOf prog_10_method_56_code 10 (some .int) 4 97 7 [(0, .ref b0), (1, .int b1), (2, .int b2), (3, .int b3), (4, .int b4), (5, .int b5), (6, .int b6)] [] h (some (.int r)) h' := by
  unfold f_M_leastOf_7b at hf
  refine g_iload (pc := 7) 6 dd_M_leastOf_0.2.2.2.2.1 rfl ?_
  refine g_iconst (pc := 9) (3 : Int32) dd_M_leastOf_0.2.2.2.2.2.1 (by decide) ?_
  refine g_icmpgt (pc := 10) 99 dd_M_leastOf_0.2.2.2.2.2.2.1 (by decide) (fun c1 => ?_) (fun c1 => ?_)
  · replace hf := (if_pos c1).symm.trans hf
    refine g_iload (pc := 99) 5 dd_M_leastOf_93.2.2.1 rfl ?_
    obtain ⟨rfl, rfl⟩ := ret2 hf
    exact g_iret (pc := 101) rfl dd_M_leastOf_93.2.2.2
  · replace hf := (if_neg c1).symm.trans hf
    refine g_iconst (pc := 13) (0 : Int32) dd_M_leastOf_0.2.2.2.2.2.2.2.1 (by decide) ?_
    refine g_istore (pc := 14) [(7, .int (0 : Int32)), (0, .ref b0), (1, .int b1), (2, .int b2), (3, .int b3), (4, .int b4), (5, .int b5), (6, .int b6)] dd_M_leastOf_0.2.2.2.2.2.2.2.2.1 (Nat.le_of_ble_eq_true rfl) rfl ?_
    refine g_lv [1, 2, 3, 4, 5, 6, 7, 0] rfl ?_
    exact t_M_leastOf_16 rec7 hrec7 FU _ _ _ _ _ _ _ _ _ _ _  hf
def f_M_leastOf_7  : Nat → Nat → Int32 → Int32 → Int32 → Int32 → Int32 → Int32 → mH → Option (Int32 × mH)
  | 0 => fun _ _ _ _ _ _ _ _ => none
  | n + 1 => f_M_leastOf_7b  (f_M_leastOf_7  n)
theorem t_M_leastOf_7 {sc : Nat × (Nat → Int32)}  : ∀ (n : Nat) (b0 : Nat) (b1 : Int32) (b2 : Int32) (b3 : Int32) (b4 : Int32) (b5 : Int32) (b6 : Int32) (h : mH) (r : Int32) (h' : mH) (hf : f_M_leastOf_7  n b0 b1 b2 b3 b4 b5 b6 h = some (r, h')), G sc y_M_leastOf prog_10_method_56_code 10 (some .int) 4 97 7 [(0, .ref b0), (1, .int b1), (2, .int b2), (3, .int b3), (4, .int b4), (5, .int b5), (6, .int b6)] [] h (some (.int r)) h'
  | 0, _, _, _, _, _, _, _, _, _, _, hf => by cases hf
  | n + 1, _, _, _, _, _, _, _, _, _, _, hf => t_M_leastOf_7b  (f_M_leastOf_7  n) (t_M_leastOf_7  n) _ _ _ _ _ _ _ _ _ _ hf
def f_M_leastOf_0  (a0 : Nat) (a1 : Int32) (a2 : Int32) (a3 : Int32) (a4 : Int32) (h : mH) : Option (Int32 × mH) :=
  f_M_leastOf_7  FU a0 a1 a2 a3 a4 (1000000 : Int32) (0 : Int32) h
set_option maxRecDepth 20000 in
theorem t_M_leastOf_0 {sc : Nat × (Nat → Int32)}  (a0 : Nat) (a1 : Int32) (a2 : Int32) (a3 : Int32) (a4 : Int32) (h : mH) (r : Int32) (h' : mH) (hf : f_M_leastOf_0  a0 a1 a2 a3 a4 h = some (r, h')) : G sc y_M_leastOf prog_10_method_56_code 10 (some .int) 4 97 0 [(0, .ref a0), (1, .int a1), (2, .int a2), (3, .int a3), (4, .int a4)] [] h (some (.int r)) h' := by
  unfold f_M_leastOf_0 at hf
  refine g_ldc (pc := 0) (1000000 : Int32) dd_M_leastOf_0.1 wd_1272 ?_
  refine g_istore (pc := 2) [(5, .int (1000000 : Int32)), (0, .ref a0), (1, .int a1), (2, .int a2), (3, .int a3), (4, .int a4)] dd_M_leastOf_0.2.1 (Nat.le_of_ble_eq_true rfl) rfl ?_
  refine g_iconst (pc := 4) (0 : Int32) dd_M_leastOf_0.2.2.1 (by decide) ?_
  refine g_istore (pc := 5) [(6, .int (0 : Int32)), (5, .int (1000000 : Int32)), (0, .ref a0), (1, .int a1), (2, .int a2), (3, .int a3), (4, .int a4)] dd_M_leastOf_0.2.2.2.1 (Nat.le_of_ble_eq_true rfl) rfl ?_
  refine g_lv [2, 3, 4, 5, 6, 1, 0] rfl ?_
  exact t_M_leastOf_7  FU _ _ _ _ _ _ _ _ _ _  hf
def f_M_leastOf (a0 : Nat) (a1 : Int32) (a2 : Int32) (a3 : Int32) (a4 : Int32) (h : mH) : Option (Int32 × mH) := f_M_leastOf_0 a0 a1 a2 a3 a4 h
theorem c_M_leastOf {sc : Nat × (Nat → Int32)} {a0 : Nat} {a1 : Int32} {a2 : Int32} {a3 : Int32} {a4 : Int32} {h : mH} {r : Int32} {h' : mH} (hf : f_M_leastOf a0 a1 a2 a3 a4 h = some (r, h')) : MM sc y_M_leastOf prog_10_method_56_code 10 (some .int) 4 97 [.ref a0, .int a1, .int a2, .int a3, .int a4] h (some (.int r)) h' :=
  mm_of_G si_pn_M (Nat.le_of_ble_eq_true rfl) (t_M_leastOf_0 _ _ _ _ _ _ _ _ hf)
/-! M findRota ()I -/
set_option maxRecDepth 100000 in
theorem dd_M_findRota_0 : (decode prog_10_method_57_code 0 = .ok (.aload_n 0, 1)) ∧ (decode prog_10_method_57_code 1 = .ok (.getfield 106, 3)) ∧ (decode prog_10_method_57_code 4 = .ok (.istore_n 1, 1)) ∧ (decode prog_10_method_57_code 5 = .ok (.iload_n 1, 1)) ∧ (decode prog_10_method_57_code 6 = .ok (.ifCond .lt 99, 3)) ∧ (decode prog_10_method_57_code 9 = .ok (.iconst 0, 1)) ∧ (decode prog_10_method_57_code 10 = .ok (.istore_n 2, 1)) ∧ (decode prog_10_method_57_code 11 = .ok (.iload_n 2, 1)) ∧ (decode prog_10_method_57_code 12 = .ok (.aload_n 0, 1)) ∧ (decode prog_10_method_57_code 13 = .ok (.getfield 59, 3)) ∧ (decode prog_10_method_57_code 16 = .ok (.iconst 0, 1)) ∧ (decode prog_10_method_57_code 17 = .ok (.iaload, 1)) ∧ (decode prog_10_method_57_code 18 = .ok (.if_icmp .gt 81, 3)) ∧ (decode prog_10_method_57_code 21 = .ok (.iconst 0, 1)) ∧ (decode prog_10_method_57_code 22 = .ok (.istore_n 3, 1)) ∧ (decode prog_10_method_57_code 23 = .ok (.iload_n 3, 1)) ∧ (decode prog_10_method_57_code 24 = .ok (.aload_n 0, 1)) ∧ (decode prog_10_method_57_code 25 = .ok (.getfield 59, 3)) ∧ (decode prog_10_method_57_code 28 = .ok (.iconst 1, 1)) ∧ (decode prog_10_method_57_code 29 = .ok (.iaload, 1)) ∧ (decode prog_10_method_57_code 30 = .ok (.if_icmp .gt 63, 3)) ∧ (decode prog_10_method_57_code 33 = .ok (.iconst 0, 1)) ∧ (decode prog_10_method_57_code 34 = .ok (.istore 4, 2)) ∧ (decode prog_10_method_57_code 36 = .ok (.iload 4, 2)) := by
  have h : List.drop 0 prog_10_method_57_code.data.toList = 0x2a :: _ := rfl
  refine ⟨zq_k_n 42 h rfl (zq_o_42 _), ?_⟩
  replace h := zq_nx1 (q := 1) h rfl
  refine ⟨zq_k_u2 180 (fun z => .getfield z) 106 h rfl (zq_o_180 _) (by decide +kernel), ?_⟩
  replace h := zq_nx3 (q := 4) h rfl
  refine ⟨zq_k_n 60 h rfl (zq_o_60 _), ?_⟩
  replace h := zq_nx1 (q := 5) h rfl
  refine ⟨zq_k_n 27 h rfl (zq_o_27 _), ?_⟩
  replace h := zq_nx1 (q := 6) h rfl
  refine ⟨zq_k_s2 155 (fun z => .ifCond .lt z) 99 h rfl (zq_o_155 _) (by decide +kernel), ?_⟩
  replace h := zq_nx3 (q := 9) h rfl
  refine ⟨zq_k_n 3 h rfl (zq_o_3 _), ?_⟩
  replace h := zq_nx1 (q := 10) h rfl
  refine ⟨zq_k_n 61 h rfl (zq_o_61 _), ?_⟩
  replace h := zq_nx1 (q := 11) h rfl
  refine ⟨zq_k_n 28 h rfl (zq_o_28 _), ?_⟩
  replace h := zq_nx1 (q := 12) h rfl
  refine ⟨zq_k_n 42 h rfl (zq_o_42 _), ?_⟩
  replace h := zq_nx1 (q := 13) h rfl
  refine ⟨zq_k_u2 180 (fun z => .getfield z) 59 h rfl (zq_o_180 _) (by decide +kernel), ?_⟩
  replace h := zq_nx3 (q := 16) h rfl
  refine ⟨zq_k_n 3 h rfl (zq_o_3 _), ?_⟩
  replace h := zq_nx1 (q := 17) h rfl
  refine ⟨zq_k_n 46 h rfl (zq_o_46 _), ?_⟩
  replace h := zq_nx1 (q := 18) h rfl
  refine ⟨zq_k_s2 163 (fun z => .if_icmp .gt z) 81 h rfl (zq_o_163 _) (by decide +kernel), ?_⟩
  replace h := zq_nx3 (q := 21) h rfl
  refine ⟨zq_k_n 3 h rfl (zq_o_3 _), ?_⟩
  replace h := zq_nx1 (q := 22) h rfl
  refine ⟨zq_k_n 62 h rfl (zq_o_62 _), ?_⟩
  replace h := zq_nx1 (q := 23) h rfl
  refine ⟨zq_k_n 29 h rfl (zq_o_29 _), ?_⟩
  replace h := zq_nx1 (q := 24) h rfl
  refine ⟨zq_k_n 42 h rfl (zq_o_42 _), ?_⟩
  replace h := zq_nx1 (q := 25) h rfl
  refine ⟨zq_k_u2 180 (fun z => .getfield z) 59 h rfl (zq_o_180 _) (by decide +kernel), ?_⟩
  replace h := zq_nx3 (q := 28) h rfl
  refine ⟨zq_k_n 4 h rfl (zq_o_4 _), ?_⟩
  replace h := zq_nx1 (q := 29) h rfl
  refine ⟨zq_k_n 46 h rfl (zq_o_46 _), ?_⟩
  replace h := zq_nx1 (q := 30) h rfl
  refine ⟨zq_k_s2 163 (fun z => .if_icmp .gt z) 63 h rfl (zq_o_163 _) (by decide +kernel), ?_⟩
  replace h := zq_nx3 (q := 33) h rfl
  refine ⟨zq_k_n 3 h rfl (zq_o_3 _), ?_⟩
  replace h := zq_nx1 (q := 34) h rfl
  refine ⟨zq_k_u1 54 (fun z => .istore z) 4 h rfl (zq_o_54 _) (by decide +kernel), ?_⟩
  replace h := zq_nx2 (q := 36) h rfl
  exact zq_k_u1 21 (fun z => .iload z) 4 h rfl (zq_o_21 _) (by decide +kernel)
set_option maxRecDepth 100000 in
theorem dd_M_findRota_38 : (decode prog_10_method_57_code 38 = .ok (.aload_n 0, 1)) ∧ (decode prog_10_method_57_code 39 = .ok (.getfield 59, 3)) ∧ (decode prog_10_method_57_code 42 = .ok (.iconst 2, 1)) ∧ (decode prog_10_method_57_code 43 = .ok (.iaload, 1)) ∧ (decode prog_10_method_57_code 44 = .ok (.if_icmp .gt 43, 3)) ∧ (decode prog_10_method_57_code 47 = .ok (.aload_n 0, 1)) ∧ (decode prog_10_method_57_code 48 = .ok (.getfield 53, 3)) ∧ (decode prog_10_method_57_code 51 = .ok (.iload_n 1, 1)) ∧ (decode prog_10_method_57_code 52 = .ok (.iload_n 2, 1)) ∧ (decode prog_10_method_57_code 53 = .ok (.iload_n 3, 1)) ∧ (decode prog_10_method_57_code 54 = .ok (.iload 4, 2)) ∧ (decode prog_10_method_57_code 56 = .ok (.invokestatic 247, 3)) ∧ (decode prog_10_method_57_code 59 = .ok (.iload_n 1, 1)) ∧ (decode prog_10_method_57_code 60 = .ok (.aload_n 0, 1)) ∧ (decode prog_10_method_57_code 61 = .ok (.getfield 106, 3)) ∧ (decode prog_10_method_57_code 64 = .ok (.if_icmp .ne 7, 3)) ∧ (decode prog_10_method_57_code 67 = .ok (.iconst 0, 1)) ∧ (decode prog_10_method_57_code 68 = .ok (.goto 12, 3)) ∧ (decode prog_10_method_57_code 71 = .ok (.aload_n 0, 1)) ∧ (decode prog_10_method_57_code 72 = .ok (.iload_n 1, 1)) ∧ (decode prog_10_method_57_code 73 = .ok (.iload_n 2, 1)) ∧ (decode prog_10_method_57_code 74 = .ok (.iload_n 3, 1)) ∧ (decode prog_10_method_57_code 75 = .ok (.iload 4, 2)) ∧ (decode prog_10_method_57_code 77 = .ok (.invokevirtual 257, 3)) := by
  have h : List.drop 38 prog_10_method_57_code.data.toList = 0x2a :: _ := rfl
  refine ⟨zq_k_n 42 h rfl (zq_o_42 _), ?_⟩
  replace h := zq_nx1 (q := 39) h rfl
  refine ⟨zq_k_u2 180 (fun z => .getfield z) 59 h rfl (zq_o_180 _) (by decide +kernel), ?_⟩
  replace h := zq_nx3 (q := 42) h rfl
  refine ⟨zq_k_n 5 h rfl (zq_o_5 _), ?_⟩
  replace h := zq_nx1 (q := 43) h rfl
  refine ⟨zq_k_n 46 h rfl (zq_o_46 _), ?_⟩
  replace h := zq_nx1 (q := 44) h rfl
  refine ⟨zq_k_s2 163 (fun z => .if_icmp .gt z) 43 h rfl (zq_o_163 _) (by decide +kernel), ?_⟩
  replace h := zq_nx3 (q := 47) h rfl
  refine ⟨zq_k_n 42 h rfl (zq_o_42 _), ?_⟩
  replace h := zq_nx1 (q := 48) h rfl
  refine ⟨zq_k_u2 180 (fun z => .getfield z) 53 h rfl (zq_o_180 _) (by decide +kernel), ?_⟩
  replace h := zq_nx3 (q := 51) h rfl
  refine ⟨zq_k_n 27 h rfl (zq_o_27 _), ?_⟩
  replace h := zq_nx1 (q := 52) h rfl
  refine ⟨zq_k_n 28 h rfl (zq_o_28 _), ?_⟩
  replace h := zq_nx1 (q := 53) h rfl
  refine ⟨zq_k_n 29 h rfl (zq_o_29 _), ?_⟩
  replace h := zq_nx1 (q := 54) h rfl
  refine ⟨zq_k_u1 21 (fun z => .iload z) 4 h rfl (zq_o_21 _) (by decide +kernel), ?_⟩
  replace h := zq_nx2 (q := 56) h rfl
  refine ⟨zq_k_u2 184 (fun z => .invokestatic z) 247 h rfl (zq_o_184 _) (by decide +kernel), ?_⟩
  replace h := zq_nx3 (q := 59) h rfl
  refine ⟨zq_k_n 27 h rfl (zq_o_27 _), ?_⟩
  replace h := zq_nx1 (q := 60) h rfl
  refine ⟨zq_k_n 42 h rfl (zq_o_42 _), ?_⟩
  replace h := zq_nx1 (q := 61) h rfl
  refine ⟨zq_k_u2 180 (fun z => .getfield z) 106 h rfl (zq_o_180 _) (by decide +kernel), ?_⟩
  replace h := zq_nx3 (q := 64) h rfl
  refine ⟨zq_k_s2 160 (fun z => .if_icmp .ne z) 7 h rfl (zq_o_160 _) (by decide +kernel), ?_⟩
  replace h := zq_nx3 (q := 67) h rfl
  refine ⟨zq_k_n 3 h rfl (zq_o_3 _), ?_⟩
  replace h := zq_nx1 (q := 68) h rfl
  refine ⟨zq_k_s2 167 (fun z => .goto z) 12 h rfl (zq_o_167 _) (by decide +kernel), ?_⟩
  replace h := zq_nx3 (q := 71) h rfl
  refine ⟨zq_k_n 42 h rfl (zq_o_42 _), ?_⟩
  replace h := zq_nx1 (q := 72) h rfl
  refine ⟨zq_k_n 27 h rfl (zq_o_27 _), ?_⟩
  replace h := zq_nx1 (q := 73) h rfl
  refine ⟨zq_k_n 28 h rfl (zq_o_28 _), ?_⟩
  replace h := zq_nx1 (q := 74) h rfl
  refine ⟨zq_k_n 29 h rfl (zq_o_29 _), ?_⟩
  replace h := zq_nx1 (q := 75) h rfl
  refine ⟨zq_k_u1 21 (fun z => .iload z) 4 h rfl (zq_o_21 _) (by decide +kernel), ?_⟩
  replace h := zq_nx2 (q := 77) h rfl
  exact zq_k_u2 182 (fun z => .invokevirtual z) 257 h rfl (zq_o_182 _) (by decide +kernel)
set_option maxRecDepth 100000 in
theorem dd_M_findRota_80 : (decode prog_10_method_57_code 80 = .ok (.iastore, 1)) ∧ (decode prog_10_method_57_code 81 = .ok (.iinc 4 1, 3)) ∧ (decode prog_10_method_57_code 84 = .ok (.goto (-48), 3)) ∧ (decode prog_10_method_57_code 87 = .ok (.iinc 3 1, 3)) ∧ (decode prog_10_method_57_code 90 = .ok (.goto (-67), 3)) ∧ (decode prog_10_method_57_code 93 = .ok (.iinc 2 1, 3)) ∧ (decode prog_10_method_57_code 96 = .ok (.goto (-85), 3)) ∧ (decode prog_10_method_57_code 99 = .ok (.iinc 1 (-1), 3)) ∧ (decode prog_10_method_57_code 102 = .ok (.goto (-97), 3)) ∧ (decode prog_10_method_57_code 105 = .ok (.aload_n 0, 1)) ∧ (decode prog_10_method_57_code 106 = .ok (.getfield 53, 3)) ∧ (decode prog_10_method_57_code 109 = .ok (.iconst 0, 1)) ∧ (decode prog_10_method_57_code 110 = .ok (.aload_n 0, 1)) ∧ (decode prog_10_method_57_code 111 = .ok (.getfield 59, 3)) ∧ (decode prog_10_method_57_code 114 = .ok (.iconst 0, 1)) ∧ (decode prog_10_method_57_code 115 = .ok (.iaload, 1)) ∧ (decode prog_10_method_57_code 116 = .ok (.aload_n 0, 1)) ∧ (decode prog_10_method_57_code 117 = .ok (.getfield 59, 3)) ∧ (decode prog_10_method_57_code 120 = .ok (.iconst 1, 1)) ∧ (decode prog_10_method_57_code 121 = .ok (.iaload, 1)) ∧ (decode prog_10_method_57_code 122 = .ok (.aload_n 0, 1)) ∧ (decode prog_10_method_57_code 123 = .ok (.getfield 59, 3)) ∧ (decode prog_10_method_57_code 126 = .ok (.iconst 2, 1)) ∧ (decode prog_10_method_57_code 127 = .ok (.iaload, 1)) := by
  have h : List.drop 80 prog_10_method_57_code.data.toList = 0x4f :: _ := rfl
  refine ⟨zq_k_n 79 h rfl (zq_o_79 _), ?_⟩
  replace h := zq_nx1 (q := 81) h rfl
  refine ⟨zq_k_iinc 4 1 h rfl (zq_o_132 _) (by decide +kernel) (by decide +kernel), ?_⟩
  replace h := zq_nx3 (q := 84) h rfl
  refine ⟨zq_k_s2 167 (fun z => .goto z) (-48) h rfl (zq_o_167 _) (by decide +kernel), ?_⟩
  replace h := zq_nx3 (q := 87) h rfl
  refine ⟨zq_k_iinc 3 1 h rfl (zq_o_132 _) (by decide +kernel) (by decide +kernel), ?_⟩
  replace h := zq_nx3 (q := 90) h rfl
  refine ⟨zq_k_s2 167 (fun z => .goto z) (-67) h rfl (zq_o_167 _) (by decide +kernel), ?_⟩
  replace h := zq_nx3 (q := 93) h rfl
  refine ⟨zq_k_iinc 2 1 h rfl (zq_o_132 _) (by decide +kernel) (by decide +kernel), ?_⟩
  replace h := zq_nx3 (q := 96) h rfl
  refine ⟨zq_k_s2 167 (fun z => .goto z) (-85) h rfl (zq_o_167 _) (by decide +kernel), ?_⟩
  replace h := zq_nx3 (q := 99) h rfl
  refine ⟨zq_k_iinc 1 (-1) h rfl (zq_o_132 _) (by decide +kernel) (by decide +kernel), ?_⟩
  replace h := zq_nx3 (q := 102) h rfl
  refine ⟨zq_k_s2 167 (fun z => .goto z) (-97) h rfl (zq_o_167 _) (by decide +kernel), ?_⟩
  replace h := zq_nx3 (q := 105) h rfl
  refine ⟨zq_k_n 42 h rfl (zq_o_42 _), ?_⟩
  replace h := zq_nx1 (q := 106) h rfl
  refine ⟨zq_k_u2 180 (fun z => .getfield z) 53 h rfl (zq_o_180 _) (by decide +kernel), ?_⟩
  replace h := zq_nx3 (q := 109) h rfl
  refine ⟨zq_k_n 3 h rfl (zq_o_3 _), ?_⟩
  replace h := zq_nx1 (q := 110) h rfl
  refine ⟨zq_k_n 42 h rfl (zq_o_42 _), ?_⟩
  replace h := zq_nx1 (q := 111) h rfl
  refine ⟨zq_k_u2 180 (fun z => .getfield z) 59 h rfl (zq_o_180 _) (by decide +kernel), ?_⟩
  replace h := zq_nx3 (q := 114) h rfl
  refine ⟨zq_k_n 3 h rfl (zq_o_3 _), ?_⟩
  replace h := zq_nx1 (q := 115) h rfl
  refine ⟨zq_k_n 46 h rfl (zq_o_46 _), ?_⟩
  replace h := zq_nx1 (q := 116) h rfl
  refine ⟨zq_k_n 42 h rfl (zq_o_42 _), ?_⟩
  replace h := zq_nx1 (q := 117) h rfl
  refine ⟨zq_k_u2 180 (fun z => .getfield z) 59 h rfl (zq_o_180 _) (by decide +kernel), ?_⟩
  replace h := zq_nx3 (q := 120) h rfl
  refine ⟨zq_k_n 4 h rfl (zq_o_4 _), ?_⟩
  replace h := zq_nx1 (q := 121) h rfl
  refine ⟨zq_k_n 46 h rfl (zq_o_46 _), ?_⟩
  replace h := zq_nx1 (q := 122) h rfl
  refine ⟨zq_k_n 42 h rfl (zq_o_42 _), ?_⟩
  replace h := zq_nx1 (q := 123) h rfl
  refine ⟨zq_k_u2 180 (fun z => .getfield z) 59 h rfl (zq_o_180 _) (by decide +kernel), ?_⟩
  replace h := zq_nx3 (q := 126) h rfl
  refine ⟨zq_k_n 5 h rfl (zq_o_5 _), ?_⟩
  replace h := zq_nx1 (q := 127) h rfl
  exact zq_k_n 46 h rfl (zq_o_46 _)
set_option maxRecDepth 100000 in
theorem dd_M_findRota_128 : (decode prog_10_method_57_code 128 = .ok (.invokestatic 247, 3)) ∧ (decode prog_10_method_57_code 131 = .ok (.iaload, 1)) ∧ (decode prog_10_method_57_code 132 = .ok (.ireturn, 1)) := by
  have h : List.drop 128 prog_10_method_57_code.data.toList = 0xb8 :: _ := rfl
  refine ⟨zq_k_u2 184 (fun z => .invokestatic z) 247 h rfl (zq_o_184 _) (by decide +kernel), ?_⟩
  replace h := zq_nx3 (q := 131) h rfl
  refine ⟨zq_k_n 46 h rfl (zq_o_46 _), ?_⟩
  replace h := zq_nx1 (q := 132) h rfl
  exact zq_k_n 172 h rfl (zq_o_172 _)
def f_M_findRota_80 (rec5 : Nat → Int32 → mH → Option (Int32 × mH)) (rec11 : Nat → Int32 → Int32 → mH → Option (Int32 × mH)) (rec23 : Nat → Int32 → Int32 → Int32 → mH → Option (Int32 × mH)) (rec36 : Nat → Int32 → Int32 → Int32 → Int32 → mH → Option (Int32 × mH)) (b0 : Nat) (b1 : Int32) (b2 : Int32) (b3 : Int32) (b4 : Int32) (s0 : Nat) (s1 : Int32) (s2 : Int32) (h : mH) : Option (Int32 × mH) :=
  bd1 (sI h 0 s0 s1 s2) fun h51 =>
  rec36 b0 b1 b2 b3 (b4 + (1 : Int32)) h51
set_option maxRecDepth 20000 in
theorem t_M_findRota_80 {sc : Nat × (Nat → Int32)} (rec5 : Nat → Int32 → mH → Option (Int32 × mH)) (hrec5 : ∀ (b0 : Nat) (b1 : Int32) (h : mH) (r : Int32) (h' : mH), rec5 b0 b1 h = some (r, h') → G sc y_M_findRota prog_10_method_57_code 5 (some .int) 5 126 5 [(0, .ref b0), (1, .int b1)] [] h (some (.int r)) h') (rec11 : Nat → Int32 → Int32 → mH → Option (Int32 × mH)) (hrec11 : ∀ (b0 : Nat) (b1 : Int32) (b2 : Int32) (h : mH) (r : Int32) (h' : mH), rec11 b0 b1 b2 h = some (r, h') → G sc y_M_findRota prog_10_method_57_code 5 (some .int) 5 126 11 [(0, .ref b0), (1, .int b1), (2, .int b2)] [] h (some (.int r)) h') (rec23 : Nat → Int32 → Int32 → Int32 → mH → Option (Int32 × mH)) (hrec23 : ∀ (b0 : Nat) (b1 : Int32) (b2 : Int32) (b3 : Int32) (h : mH) (r : Int32) (h' : mH), rec23 b0 b1 b2 b3 h = some (r, h') → G sc y_M_findRota prog_10_method_57_code 5 (some .int) 5 126 23 [(0, .ref b0), (1, .int b1), (2, .int b2), (3, .int b3)] [] h (some (.int r)) h') (rec36 : Nat → Int32 → Int32 → Int32 → Int32 → mH → Option (Int32 × mH)) (hrec36 : ∀ (b0 : Nat) (b1 : Int32) (b2 : Int32) (b3 : Int32) (b4 : Int32) (h : mH) (r : Int32) (h' : mH), rec36 b0 b1 b2 b3 b4 h = some (r, h') → G sc y_M_findRota prog_10_method_57_code 5 (some .int) 5 126 36 [(0, .ref b0), (1, .int b1), (2, .int b2), (3, .int b3), (4, .int b4)] [] h (some (.int r)) h') (b0 : Nat) (b1 : Int32) (b2 : Int32) (b3 : Int32) (b4 : Int32) (s0 : Nat) (s1 : Int32) (s2 : Int32) (h : mH) (r : Int32) (h' : mH) (hf : f_M_findRota_80 rec5 rec11 rec23 rec36 b0 b1 b2 b3 b4 s0 s1 s2 h = some (r, h')) : G sc y_M_findRota prog_10_method_57_code 5 (some .int) 5 126 80 [(0, .ref b0), (1, .int b1), (2, .int b2), (3, .int b3), (4, .int b4)] [.int s2, .int s1, .ref s0] h (some (.int r)) h' := by
  unfold f_M_findRota_80 at hf
  obtain ⟨h51, e52, hf⟩ := bd1_e hf
  refine g_iast (pc := 80) dd_M_findRota_80.1 e52 ?_
  refine g_iinc (pc := 81) 4 (b4 + (1 : Int32)) [(4, .int (b4 + (1 : Int32))), (0, .ref b0), (1, .int b1), (2, .int b2), (3, .int b3)] dd_M_findRota_80.2.1 rfl rfl (Nat.le_of_ble_eq_true rfl) rfl ?_
  refine g_goto (pc := 84) 36 dd_M_findRota_80.2.2.1 (by decide) ?_
  refine g_lv [1, 2, 3, 4, 0] rfl ?_
  exact hrec36 _ _ _ _ _ _ _ _  hf
def f_M_findRota_36b (rec5 : Nat → Int32 → mH → Option (Int32 × mH)) (rec11 : Nat → Int32 → Int32 → mH → Option (Int32 × mH)) (rec23 : Nat → Int32 → Int32 → Int32 → mH → Option (Int32 × mH)) (rec36 : Nat → Int32 → Int32 → Int32 → Int32 → mH → Option (Int32 × mH)) (b0 : Nat) (b1 : Int32) (b2 : Int32) (b3 : Int32) (b4 : Int32) (h : mH) : Option (Int32 × mH) :=
  bd1 (gR h b0 8 29) fun x33 =>
  bd1 (aI h 0 x33 (2 : Int32)) fun x35 =>
  if x35 < b4 then
    rec23 b0 b1 b2 (b3 + (1 : Int32)) h
  else
    bd1 (gR h b0 8 27) fun x37 =>
    bd2 (f_M_at b1 b2 b3 b4 h) fun x41 h39 =>
    bd1 (gI h39 b0 8 2) fun x42 =>
    if b1 = x42 then
      f_M_findRota_80 rec5 rec11 rec23 rec36 b0 b1 b2 b3 b4 x37 x41 (0 : Int32) h39
    else
      bd1 (kC h39 b0 8) fun _ =>
      bd2 (f_M_leastOf b0 b1 b2 b3 b4 h39) fun x48 h46 =>
      f_M_findRota_80 rec5 rec11 rec23 rec36 b0 b1 b2 b3 b4 x37 x41 x48 h46
set_option maxRecDepth 20000 in
theorem t_M_findRota_36b {sc : Nat × (Nat → Int32)} (rec5 : Nat → Int32 → mH → Option (Int32 × mH)) (hrec5 : ∀ (b0 : Nat) (b1 : Int32) (h : mH) (r : Int32) (h' : mH), rec5 b0 b1 h = some (r, h') → G sc y_M_findRota prog_10_method_57_code 5 (some .int) 5 126 5 [(0, .ref b0), (1, .int b1)] [] h (some (.int r)) h') (rec11 : Nat → Int32 → Int32 → mH → Option (Int32 × mH)) (hrec11 : ∀ (b0 : Nat) (b1 : Int32) (b2 : Int32) (h : mH) (r : Int32) (h' : mH), rec11 b0 b1 b2 h = some (r, h') → G sc y_M_findRota prog_10_method_57_code 5 (some .int) 5 126 11 [(0, .ref b0), (1, .int b1), (2, .int b2)] [] h (some (.int r)) h') (rec23 : Nat → Int32 → Int32 → Int32 → mH → Option (Int32 × mH)) (hrec23 : ∀ (b0 : Nat) (b1 : Int32) (b2 : Int32) (b3 : Int32) (h : mH) (r : Int32) (h' : mH), rec23 b0 b1 b2 b3 h = some (r, h') → G sc y_M_findRota prog_10_method_57_code 5 (some .int) 5 126 23 [(0, .ref b0), (1, .int b1), (2, .int b2), (3, .int b3)] [] h (some (.int r)) h') (rec36 : Nat → Int32 → Int32 → Int32 → Int32 → mH → Option (Int32 × mH)) (hrec36 : ∀ (b0 : Nat) (b1 : Int32) (b2 : Int32) (b3 : Int32) (b4 : Int32) (h : mH) (r : Int32) (h' : mH), rec36 b0 b1 b2 b3 b4 h = some (r, h') → G sc y_M_findRota prog_10_method_57_code 5 (some .int) 5 126 36 [(0, .ref b0), (1, .int b1), (2, .int b2), (3, .int b3), (4, .int b4)] [] h (some (.int r)) h') (b0 : Nat) (b1 : Int32) (b2 : Int32) (b3 : Int32) (b4 : Int32) (h : mH) (r : Int32) (h' : mH) (hf : f_M_findRota_36b rec5 rec11 rec23 rec36 b0 b1 b2 b3 b4 h = some (r, h')) : G sc y_M_findRota prog_10_method_57_code 5 (some .int) 5 126 36 [(0, .ref b0), (1, .int b1), (2, .int b2), (3, .int b3), (4, .int b4)] [] h (some (.int r)) h' := by
  unfold f_M_findRota_36b at hf
  refine g_iload (pc := 36) 4 dd_M_findRota_0.2.2.2.2.2.2.2.2.2.2.2.2.2.2.2.2.2.2.2.2.2.2.2 rfl ?_
  refine g_aload_n (pc := 38) 0 dd_M_findRota_38.1 rfl rfl ?_
  obtain ⟨x33, e34, hf⟩ := bd1_e hf
  refine g_get (pc := 39) (ci := 8) (kk := 29) dd_M_findRota_38.2.1 rfl in_M (by decide) wd_967 (gR_spec e34) ?_
  refine g_iconst (pc := 42) (2 : Int32) dd_M_findRota_38.2.2.1 (by decide) ?_
  obtain ⟨x35, e36, hf⟩ := bd1_e hf
  refine g_iald (pc := 43) dd_M_findRota_38.2.2.2.1 e36 ?_
  refine g_icmpgt (pc := 44) 87 dd_M_findRota_38.2.2.2.2.1 (by decide) (fun c50 => ?_) (fun c50 => ?_)
  · replace hf := (if_pos c50).symm.trans hf
    refine g_iinc (pc := 87) 3 (b3 + (1 : Int32)) [(3, .int (b3 + (1 : Int32))), (0, .ref b0), (1, .int b1), (2, .int b2), (4, .int b4)] dd_M_findRota_80.2.2.2.1 rfl rfl (Nat.le_of_ble_eq_true rfl) rfl ?_
    refine g_goto (pc := 90) 23 dd_M_findRota_80.2.2.2.2.1 (by decide) ?_
    refine g_lv [1, 2, 3, 0] rfl ?_
    exact hrec23 _ _ _ _ _ _ _  hf
  · replace hf := (if_neg c50).symm.trans hf
    refine g_aload_n (pc := 47) 0 dd_M_findRota_38.2.2.2.2.2.1 rfl rfl ?_
    obtain ⟨x37, e38, hf⟩ := bd1_e hf
    refine g_get (pc := 48) (ci := 8) (kk := 27) dd_M_findRota_38.2.2.2.2.2.2.1 rfl in_M (by decide) wd_965 (gR_spec e38) ?_
    refine g_iload_n (pc := 51) 1 dd_M_findRota_38.2.2.2.2.2.2.2.1 rfl rfl ?_
    refine g_iload_n (pc := 52) 2 dd_M_findRota_38.2.2.2.2.2.2.2.2.1 rfl rfl ?_
    refine g_iload_n (pc := 53) 3 dd_M_findRota_38.2.2.2.2.2.2.2.2.2.1 rfl rfl ?_
    refine g_iload (pc := 54) 4 dd_M_findRota_38.2.2.2.2.2.2.2.2.2.2.1 rfl ?_
    obtain ⟨x41, h39, e40, hf⟩ := bd2_e hf
    refine g_callS (pc := 56) [.int b1, .int b2, .int b3, .int b4] (site_of si_M_at (by decide) (by decide)) wd_1265 wd_1266 dd_M_findRota_38.2.2.2.2.2.2.2.2.2.2.2.1 (Nat.le_of_ble_eq_true rfl) (fun z => absurd z si_na_M_at) (fun z => absurd z si_na_M_at) (fun z => absurd z si_na_M_at) (c_M_at e40) rfl ?_
    refine g_st [.int x41, .ref x37] rfl ?_
    refine g_iload_n (pc := 59) 1 dd_M_findRota_38.2.2.2.2.2.2.2.2.2.2.2.2.1 rfl rfl ?_
    refine g_aload_n (pc := 60) 0 dd_M_findRota_38.2.2.2.2.2.2.2.2.2.2.2.2.2.1 rfl rfl ?_
    obtain ⟨x42, e43, hf⟩ := bd1_e hf
    refine g_get (pc := 61) (ci := 8) (kk := 2) dd_M_findRota_38.2.2.2.2.2.2.2.2.2.2.2.2.2.2.1 rfl in_M (by decide) wd_940 (gI_spec e43) ?_
    refine g_icmpne (pc := 64) 71 dd_M_findRota_38.2.2.2.2.2.2.2.2.2.2.2.2.2.2.2.1 (by decide) (fun c49 => ?_) (fun c49 => ?_)
    · replace hf := (if_neg c49).symm.trans hf
      refine g_aload_n (pc := 71) 0 dd_M_findRota_38.2.2.2.2.2.2.2.2.2.2.2.2.2.2.2.2.2.2.1 rfl rfl ?_
      refine g_iload_n (pc := 72) 1 dd_M_findRota_38.2.2.2.2.2.2.2.2.2.2.2.2.2.2.2.2.2.2.2.1 rfl rfl ?_
      refine g_iload_n (pc := 73) 2 dd_M_findRota_38.2.2.2.2.2.2.2.2.2.2.2.2.2.2.2.2.2.2.2.2.1 rfl rfl ?_
      refine g_iload_n (pc := 74) 3 dd_M_findRota_38.2.2.2.2.2.2.2.2.2.2.2.2.2.2.2.2.2.2.2.2.2.1 rfl rfl ?_
      refine g_iload (pc := 75) 4 dd_M_findRota_38.2.2.2.2.2.2.2.2.2.2.2.2.2.2.2.2.2.2.2.2.2.2.1 rfl ?_
      obtain ⟨u45, e44, hf⟩ := bd1_e hf
      obtain ⟨x48, h46, e47, hf⟩ := bd2_e hf
      refine g_callV (pc := 77) (ci := 8) [.int b1, .int b2, .int b3, .int b4] (site_of si_M_leastOf (by decide) (by decide)) wd_1268 wd_1270 wp_59 dd_M_findRota_38.2.2.2.2.2.2.2.2.2.2.2.2.2.2.2.2.2.2.2.2.2.2.2 rfl e44 (Nat.le_of_ble_eq_true rfl) (fun z => absurd z si_na_M_leastOf) (fun z => absurd z si_na_M_leastOf) (fun z => absurd z si_na_M_leastOf) (c_M_leastOf e47) rfl ?_
      refine g_st [.int x48, .int x41, .ref x37] rfl ?_
      refine g_lv [0, 1, 2, 3, 4] rfl ?_
      exact t_M_findRota_80 rec5 hrec5 rec11 hrec11 rec23 hrec23 rec36 hrec36 _ _ _ _ _ _ _ _ _ _ _  hf
    · replace hf := (if_pos c49).symm.trans hf
      refine g_iconst (pc := 67) (0 : Int32) dd_M_findRota_38.2.2.2.2.2.2.2.2.2.2.2.2.2.2.2.2.1 (by decide) ?_
      refine g_goto (pc := 68) 80 dd_M_findRota_38.2.2.2.2.2.2.2.2.2.2.2.2.2.2.2.2.2.1 (by decide) ?_
      refine g_lv [0, 1, 2, 3, 4] rfl ?_
      exact t_M_findRota_80 rec5 hrec5 rec11 hrec11 rec23 hrec23 rec36 hrec36 _ _ _ _ _ _ _ _ _ _ _  hf
def f_M_findRota_36 (rec5 : Nat → Int32 → mH → Option (Int32 × mH)) (rec11 : Nat → Int32 → Int32 → mH → Option (Int32 × mH)) (rec23 : Nat → Int32 → Int32 → Int32 → mH → Option (Int32 × mH)) : Nat → Nat → Int32 → Int32 → Int32 → Int32 → mH → Option (Int32 × mH)
  | 0 => fun _ _ _ _ _ _ => none
  | n + 1 => f_M_findRota_36b rec5 rec11 rec23 (f_M_findRota_36 rec5 rec11 rec23 n)
theorem t_M_findRota_36 {sc : Nat × (Nat → Int32)} (rec5 : Nat → Int32 → mH → Option (Int32 × mH)) (hrec5 : ∀ (b0 : Nat) (b1 : Int32) (h : mH) (r : Int32) (h' : mH), rec5 b0 b1 h = some (r, h') → G sc y_M_findRota prog_10_method_57_code 5 (some .int) 5 126 5 [(0, .ref b0), (1, .int b1)] [] h (some (.int r)) h') (rec11 : Nat → Int32 → Int32 → mH → Option (Int32 × mH)) (hrec11 : ∀ (b0 : Nat) (b1 : Int32) (b2 : Int32) (h : mH) (r : Int32) (h' : mH), rec11 b0 b1 b2 h = some (r, h') → G sc y_M_findRota prog_10_method_57_code 5 (some .int) 5 126 11 [(0, .ref b0), (1, .int b1), (2, .int b2)] [] h (some (.int r)) h') (rec23 : Nat → Int32 → Int32 → Int32 → mH → Option (Int32 × mH)) (hrec23 : ∀ (b0 : Nat) (b1 : Int32) (b2 : Int32) (b3 : Int32) (h : mH) (r : Int32) (h' : mH), rec23 b0 b1 b2 b3 h = some (r, h') → G sc y_M_findRota prog_10_method_57_code 5 (some .int) 5 126 23 [(0, .ref b0), (1, .int b1), (2, .int b2), (3, .int b3)] [] h (some (.int r)) h') : ∀ (n : Nat) (b0 : Nat) (b1 : Int32) (b2 : Int32) (b3 : Int32) (b4 : Int32) (h : mH) (r : Int32) (h' : mH) (hf : f_M_findRota_36 rec5 rec11 rec23 n b0 b1 b2 b3 b4 h = some (r, h')), G sc y_M_findRota prog_10_method_57_code 5 (some .int) 5 126 36 [(0, .ref b0), (1, .int b1), (2, .int b2), (3, .int b3), (4, .int b4)] [] h (some (.int r)) h'
  | 0, _, _, _, _, _, _, _, _, hf => by cases hf
  | n + 1, _, _, _, _, _, _, _, _, hf => t_M_findRota_36b rec5 hrec5 rec11 hrec11 rec23 hrec23 (f_M_findRota_36 rec5 rec11 rec23 n) (t_M_findRota_36 rec5 hrec5 rec11 hrec11 rec23 hrec23 n) _ _ _ _ _ _ _ _ hf
def f_M_findRota_23b (rec5 : Nat → Int32 → mH → Option (Int32 × mH)) (rec11 : Nat → Int32 → Int32 → mH → Option (Int32 × mH)) (rec23 : Nat → Int32 → Int32 → Int32 → mH → Option (Int32 × mH)) (b0 : Nat) (b1 : Int32) (b2 : Int32) (b3 : Int32) (h : mH) : Option (Int32 × mH) :=
  bd1 (gR h b0 8 29) fun x28 =>
  bd1 (aI h 0 x28 (1 : Int32)) fun x30 =>
  if x30 < b3 then
    rec11 b0 b1 (b2 + (1 : Int32)) h
  else
    f_M_findRota_36 rec5 rec11 rec23 FU b0 b1 b2 b3 (0 : Int32) h
set_option maxRecDepth 20000 in
theorem t_M_findRota_23b {sc : Nat × (Nat → Int32)} (rec5 : Nat → Int32 → mH → Option (Int32 × mH)) (hrec5 : ∀ (b0 : Nat) (b1 : Int32) (h : mH) (r : Int32) (h' : mH), rec5 b0 b1 h = some (r, h') → G sc y_M_findRota prog_10_method_57_code 5 (some .int) 5 126 5 [(0, .ref b0), (1, .int b1)] [] h (some (.int r)) h') (rec11 : Nat → Int32 → Int32 → mH → Option (Int32 × mH)) (hrec11 : ∀ (b0 : Nat) (b1 : Int32) (b2 : Int32) (h : mH) (r : Int32) (h' : mH), rec11 b0 b1 b2 h = some (r, h') → G sc y_M_findRota prog_10_method_57_code 5 (some .int) 5 126 11 [(0, .ref b0), (1, .int b1), (2, .int b2)] [] h (some (.int r)) h') (rec23 : Nat → Int32 → Int32 → Int32 → mH → Option (Int32 × mH)) (hrec23 : ∀ (b0 : Nat) (b1 : Int32) (b2 : Int32) (b3 : Int32) (h : mH) (r : Int32) (h' : mH), rec23 b0 b1 b2 b3 h = some (r, h') → G sc y_M_findRota prog_10_method_57_code 5 (some .int) 5 126 23 [(0, .ref b0), (1, .int b1), (2, .int b2), (3, .int b3)] [] h (some (.int r)) h') (b0 : Nat) (b1 : Int32) (b2 : Int32) (b3 : Int32) (h : mH) (r : Int32) (h' : mH) (hf : f_M_findRota_23b rec5 rec11 rec23 b0 b1 b2 b3 h = some (r, h')) : G sc y_M_findRota prog_10_method_57_code 5 (some .int) 5 126 23 [(0, .ref b0), (1, .int b1), (2, .int b2), (3, .int b3)] [] h (some (.int r)) h' := by
  unfold f_M_findRota_23b at hf
  refine g_iload_n (pc := 23) 3 dd_M_findRota_0.2.2.2.2.2.2.2.2.2.2.2.2.2.2.2.1 rfl rfl ?_
  refine g_aload_n (pc := 24) 0 dd_M_findRota_0.2.2.2.2.2.2.2.2.2.2.2.2.2.2.2.2.1 rfl rfl ?_
  obtain ⟨x28, e29, hf⟩ := bd1_e hf
  refine g_get (pc := 25) (ci := 8) (kk := 29) dd_M_findRota_0.2.2.2.2.2.2.2.2.2.2.2.2.2.2.2.2.2.1 rfl in_M (by decide) wd_967 (gR_spec e29) ?_
  refine g_iconst (pc := 28) (1 : Int32) dd_M_findRota_0.2.2.2.2.2.2.2.2.2.2.2.2.2.2.2.2.2.2.1 (by decide) ?_
  obtain ⟨x30, e31, hf⟩ := bd1_e hf
  refine g_iald (pc := 29) dd_M_findRota_0.2.2.2.2.2.2.2.2.2.2.2.2.2.2.2.2.2.2.2.1 e31 ?_
  refine g_icmpgt (pc := 30) 93 dd_M_findRota_0.2.2.2.2.2.2.2.2.2.2.2.2.2.2.2.2.2.2.2.2.1 (by decide) (fun c32 => ?_) (fun c32 => ?_)
  · replace hf := (if_pos c32).symm.trans hf
    refine g_iinc (pc := 93) 2 (b2 + (1 : Int32)) [(2, .int (b2 + (1 : Int32))), (0, .ref b0), (1, .int b1), (3, .int b3)] dd_M_findRota_80.2.2.2.2.2.1 rfl rfl (Nat.le_of_ble_eq_true rfl) rfl ?_
    refine g_goto (pc := 96) 11 dd_M_findRota_80.2.2.2.2.2.2.1 (by decide) ?_
    refine g_lv [1, 2, 0] rfl ?_
    exact hrec11 _ _ _ _ _ _  hf
  · replace hf := (if_neg c32).symm.trans hf
    refine g_iconst (pc := 33) (0 : Int32) dd_M_findRota_0.2.2.2.2.2.2.2.2.2.2.2.2.2.2.2.2.2.2.2.2.2.1 (by decide) ?_
    refine g_istore (pc := 34) [(4, .int (0 : Int32)), (0, .ref b0), (1, .int b1), (2, .int b2), (3, .int b3)] dd_M_findRota_0.2.2.2.2.2.2.2.2.2.2.2.2.2.2.2.2.2.2.2.2.2.2.1 (Nat.le_of_ble_eq_true rfl) rfl ?_
    refine g_lv [1, 2, 3, 4, 0] rfl ?_
    exact t_M_findRota_36 rec5 hrec5 rec11 hrec11 rec23 hrec23 FU _ _ _ _ _ _ _ _  hf
def f_M_findRota_23 (rec5 : Nat → Int32 → mH → Option (Int32 × mH)) (rec11 : Nat → Int32 → Int32 → mH → Option (Int32 × mH)) : Nat → Nat → Int32 → Int32 → Int32 → mH → Option (Int32 × mH)
  | 0 => fun _ _ _ _ _ => none
  | n + 1 => f_M_findRota_23b rec5 rec11 (f_M_findRota_23 rec5 rec11 n)
theorem t_M_findRota_23 {sc : Nat × (Nat → Int32)} (rec5 : Nat → Int32 → mH → Option (Int32 × mH)) (hrec5 : ∀ (b0 : Nat) (b1 : Int32) (h : mH) (r : Int32) (h' : mH), rec5 b0 b1 h = some (r, h') → G sc y_M_findRota prog_10_method_57_code 5 (some .int) 5 126 5 [(0, .ref b0), (1, .int b1)] [] h (some (.int r)) h') (rec11 : Nat → Int32 → Int32 → mH → Option (Int32 × mH)) (hrec11 : ∀ (b0 : Nat) (b1 : Int32) (b2 : Int32) (h : mH) (r : Int32) (h' : mH), rec11 b0 b1 b2 h = some (r, h') → G sc y_M_findRota prog_10_method_57_code 5 (some .int) 5 126 11 [(0, .ref b0), (1, .int b1), (2, .int b2)] [] h (some (.int r)) h') : ∀ (n : Nat) (b0 : Nat) (b1 : Int32) (b2 : Int32) (b3 : Int32) (h : mH) (r : Int32) (h' : mH) (hf : f_M_findRota_23 rec5 rec11 n b0 b1 b2 b3 h = some (r, h')), G sc y_M_findRota prog_10_method_57_code 5 (some .int) 5 126 23 [(0, .ref b0), (1, .int b1), (2, .int b2), (3, .int b3)] [] h (some (.int r)) h'
  | 0, _, _, _, _, _, _, _, hf => by cases hf
  | n + 1, _, _, _, _, _, _, _, hf => t_M_findRota_23b rec5 hrec5 rec11 hrec11 (f_M_findRota_23 rec5 rec11 n) (t_M_findRota_23 rec5 hrec5 rec11 hrec11 n) _ _ _ _ _ _ _ hf
def f_M_findRota_11b (rec5 : Nat → Int32 → mH → Option (Int32 × mH)) (rec11 : Nat → Int32 → Int32 → mH → Option (Int32 × mH)) (b0 : Nat) (b1 : Int32) (b2 : Int32) (h : mH) : Option (Int32 × mH) :=
  bd1 (gR h b0 8 29) fun x23 =>
  bd1 (aI h 0 x23 (0 : Int32)) fun x25 =>
  if x25 < b2 then
    rec5 b0 (b1 + ((-1) : Int32)) h
  else
    f_M_findRota_23 rec5 rec11 FU b0 b1 b2 (0 : Int32) h
set_option maxRecDepth 20000 in
theorem t_M_findRota_11b {sc : Nat × (Nat → Int32)} (rec5 : Nat → Int32 → mH → Option (Int32 × mH)) (hrec5 : ∀ (b0 : Nat) (b1 : Int32) (h : mH) (r : Int32) (h' : mH), rec5 b0 b1 h = some (r, h') → G sc y_M_findRota prog_10_method_57_code 5 (some .int) 5 126 5 [(0, .ref b0), (1, .int b1)] [] h (some (.int r)) h') (rec11 : Nat → Int32 → Int32 → mH → Option (Int32 × mH)) (hrec11 : ∀ (b0 : Nat) (b1 : Int32) (b2 : Int32) (h : mH) (r : Int32) (h' : mH), rec11 b0 b1 b2 h = some (r, h') → G sc y_M_findRota prog_10_method_57_code 5 (some .int) 5 126 11 [(0, .ref b0), (1, .int b1), (2, .int b2)] [] h (some (.int r)) h') (b0 : Nat) (b1 : Int32) (b2 : Int32) (h : mH) (r : Int32) (h' : mH) (hf : f_M_findRota_11b rec5 rec11 b0 b1 b2 h = some (r, h')) : G sc y_M_findRota prog_10_method_57_code 5 (some .int) 5 126 11 [(0, .ref b0), (1, .int b1), (2, .int b2)] [] h (some (.int r)) h' := by
  unfold f_M_findRota_11b at hf
  refine g_iload_n (pc := 11) 2 dd_M_findRota_0.2.2.2.2.2.2.2.1 rfl rfl ?_
  refine g_aload_n (pc := 12) 0 dd_M_findRota_0.2.2.2.2.2.2.2.2.1 rfl rfl ?_
  obtain ⟨x23, e24, hf⟩ := bd1_e hf
  refine g_get (pc := 13) (ci := 8) (kk := 29) dd_M_findRota_0.2.2.2.2.2.2.2.2.2.1 rfl in_M (by decide) wd_967 (gR_spec e24) ?_
  refine g_iconst (pc := 16) (0 : Int32) dd_M_findRota_0.2.2.2.2.2.2.2.2.2.2.1 (by decide) ?_
  obtain ⟨x25, e26, hf⟩ := bd1_e hf
  refine g_iald (pc := 17) dd_M_findRota_0.2.2.2.2.2.2.2.2.2.2.2.1 e26 ?_
  refine g_icmpgt (pc := 18) 99 dd_M_findRota_0.2.2.2.2.2.2.2.2.2.2.2.2.1 (by decide) (fun c27 => ?_) (fun c27 => ?_)
  · replace hf := (if_pos c27).symm.trans hf
    refine g_iinc (pc := 99) 1 (b1 + ((-1) : Int32)) [(1, .int (b1 + ((-1) : Int32))), (0, .ref b0), (2, .int b2)] dd_M_findRota_80.2.2.2.2.2.2.2.1 rfl rfl (Nat.le_of_ble_eq_true rfl) rfl ?_
    refine g_goto (pc := 102) 5 dd_M_findRota_80.2.2.2.2.2.2.2.2.1 (by decide) ?_
    refine g_lv [1, 0] rfl ?_
    exact hrec5 _ _ _ _ _  hf
  · replace hf := (if_neg c27).symm.trans hf
    refine g_iconst (pc := 21) (0 : Int32) dd_M_findRota_0.2.2.2.2.2.2.2.2.2.2.2.2.2.1 (by decide) ?_
    refine g_istore_n (pc := 22) [(3, .int (0 : Int32)), (0, .ref b0), (1, .int b1), (2, .int b2)] dd_M_findRota_0.2.2.2.2.2.2.2.2.2.2.2.2.2.2.1 rfl (Nat.le_of_ble_eq_true rfl) rfl ?_
    refine g_lv [1, 2, 3, 0] rfl ?_
    exact t_M_findRota_23 rec5 hrec5 rec11 hrec11 FU _ _ _ _ _ _ _  hf
def f_M_findRota_11 (rec5 : Nat → Int32 → mH → Option (Int32 × mH)) : Nat → Nat → Int32 → Int32 → mH → Option (Int32 × mH)
  | 0 => fun _ _ _ _ => none
  | n + 1 => f_M_findRota_11b rec5 (f_M_findRota_11 rec5 n)
theorem t_M_findRota_11 {sc : Nat × (Nat → Int32)} (rec5 : Nat → Int32 → mH → Option (Int32 × mH)) (hrec5 : ∀ (b0 : Nat) (b1 : Int32) (h : mH) (r : Int32) (h' : mH), rec5 b0 b1 h = some (r, h') → G sc y_M_findRota prog_10_method_57_code 5 (some .int) 5 126 5 [(0, .ref b0), (1, .int b1)] [] h (some (.int r)) h') : ∀ (n : Nat) (b0 : Nat) (b1 : Int32) (b2 : Int32) (h : mH) (r : Int32) (h' : mH) (hf : f_M_findRota_11 rec5 n b0 b1 b2 h = some (r, h')), G sc y_M_findRota prog_10_method_57_code 5 (some .int) 5 126 11 [(0, .ref b0), (1, .int b1), (2, .int b2)] [] h (some (.int r)) h'
  | 0, _, _, _, _, _, _, hf => by cases hf
  | n + 1, _, _, _, _, _, _, hf => t_M_findRota_11b rec5 hrec5 (f_M_findRota_11 rec5 n) (t_M_findRota_11 rec5 hrec5 n) _ _ _ _ _ _ hf
def f_M_findRota_5b (rec5 : Nat → Int32 → mH → Option (Int32 × mH)) (b0 : Nat) (b1 : Int32) (h : mH) : Option (Int32 × mH) :=
  if b1 < 0 then
    bd1 (gR h b0 8 27) fun x3 =>
    bd1 (gR h b0 8 29) fun x5 =>
    bd1 (aI h 0 x5 (0 : Int32)) fun x7 =>
    bd1 (gR h b0 8 29) fun x9 =>
    bd1 (aI h 0 x9 (1 : Int32)) fun x11 =>
    bd1 (gR h b0 8 29) fun x13 =>
    bd1 (aI h 0 x13 (2 : Int32)) fun x15 =>
    bd2 (f_M_at (0 : Int32) x7 x11 x15 h) fun x19 h17 =>
    bd1 (aI h17 0 x3 x19) fun x20 =>
    some (x20, h17)
  else
    f_M_findRota_11 rec5 FU b0 b1 (0 : Int32) h
set_option maxRecDepth 20000 in
theorem t_M_findRota_5b {sc : Nat × (Nat → Int32)} (rec5 : Nat → Int32 → mH → Option (Int32 × mH)) (hrec5 : ∀ (b0 : Nat) (b1 : Int32) (h : mH) (r : Int32) (h' : mH), rec5 b0 b1 h = some (r, h') → G sc y_M_findRota prog_10_method_57_code 5 (some .int) 5 126 5 [(0, .ref b0), (1, .int b1)] [] h (some (.int r)) h') (b0 : Nat) (b1 : Int32) (h : mH) (r : Int32) (h' : mH) (hf : f_M_findRota_5b rec5 b0 b1 h = some (r, h')) : G sc y_M_findRota prog_10_method_57_code 5 (some .int) 5 126 5 [(0, .ref b0), (1, .int b1)] [] h (some (.int r)) h' := by
  unfold f_M_findRota_5b at hf
  refine g_iload_n (pc := 5) 1 dd_M_findRota_0.2.2.2.1 rfl rfl ?_
  refine g_iflt (pc := 6) 105 dd_M_findRota_0.2.2.2.2.1 (by decide) (fun c22 => ?_) (fun c22 => ?_)
  · replace hf := (if_pos c22).symm.trans hf
    refine g_aload_n (pc := 105) 0 dd_M_findRota_80.2.2.2.2.2.2.2.2.2.1 rfl rfl ?_
    obtain ⟨x3, e4, hf⟩ := bd1_e hf
    refine g_get (pc := 106) (ci := 8) (kk := 27) dd_M_findRota_80.2.2.2.2.2.2.2.2.2.2.1 rfl in_M (by decide) wd_965 (gR_spec e4) ?_
    refine g_iconst (pc := 109) (0 : Int32) dd_M_findRota_80.2.2.2.2.2.2.2.2.2.2.2.1 (by decide) ?_
    refine g_aload_n (pc := 110) 0 dd_M_findRota_80.2.2.2.2.2.2.2.2.2.2.2.2.1 rfl rfl ?_
    obtain ⟨x5, e6, hf⟩ := bd1_e hf
    refine g_get (pc := 111) (ci := 8) (kk := 29) dd_M_findRota_80.2.2.2.2.2.2.2.2.2.2.2.2.2.1 rfl in_M (by decide) wd_967 (gR_spec e6) ?_
    refine g_iconst (pc := 114) (0 : Int32) dd_M_findRota_80.2.2.2.2.2.2.2.2.2.2.2.2.2.2.1 (by decide) ?_
    obtain ⟨x7, e8, hf⟩ := bd1_e hf
    refine g_iald (pc := 115) dd_M_findRota_80.2.2.2.2.2.2.2.2.2.2.2.2.2.2.2.1 e8 ?_
    refine g_aload_n (pc := 116) 0 dd_M_findRota_80.2.2.2.2.2.2.2.2.2.2.2.2.2.2.2.2.1 rfl rfl ?_
    obtain ⟨x9, e10, hf⟩ := bd1_e hf
    refine g_get (pc := 117) (ci := 8) (kk := 29) dd_M_findRota_80.2.2.2.2.2.2.2.2.2.2.2.2.2.2.2.2.2.1 rfl in_M (by decide) wd_967 (gR_spec e10) ?_
    refine g_iconst (pc := 120) (1 : Int32) dd_M_findRota_80.2.2.2.2.2.2.2.2.2.2.2.2.2.2.2.2.2.2.1 (by decide) ?_
    obtain ⟨x11, e12, hf⟩ := bd1_e hf
    refine g_iald (pc := 121) dd_M_findRota_80.2.2.2.2.2.2.2.2.2.2.2.2.2.2.2.2.2.2.2.1 e12 ?_
    refine g_aload_n (pc := 122) 0 dd_M_findRota_80.2.2.2.2.2.2.2.2.2.2.2.2.2.2.2.2.2.2.2.2.1 rfl rfl ?_
    obtain ⟨x13, e14, hf⟩ := bd1_e hf
    refine g_get (pc := 123) (ci := 8) (kk := 29) dd_M_findRota_80.2.2.2.2.2.2.2.2.2.2.2.2.2.2.2.2.2.2.2.2.2.1 rfl in_M (by decide) wd_967 (gR_spec e14) ?_
    refine g_iconst (pc := 126) (2 : Int32) dd_M_findRota_80.2.2.2.2.2.2.2.2.2.2.2.2.2.2.2.2.2.2.2.2.2.2.1 (by decide) ?_
    obtain ⟨x15, e16, hf⟩ := bd1_e hf
    refine g_iald (pc := 127) dd_M_findRota_80.2.2.2.2.2.2.2.2.2.2.2.2.2.2.2.2.2.2.2.2.2.2.2 e16 ?_
    obtain ⟨x19, h17, e18, hf⟩ := bd2_e hf
    refine g_callS (pc := 128) [.int (0 : Int32), .int x7, .int x11, .int x15] (site_of si_M_at (by decide) (by decide)) wd_1265 wd_1266 dd_M_findRota_128.1 (Nat.le_of_ble_eq_true rfl) (fun z => absurd z si_na_M_at) (fun z => absurd z si_na_M_at) (fun z => absurd z si_na_M_at) (c_M_at e18) rfl ?_
    refine g_st [.int x19, .ref x3] rfl ?_
    obtain ⟨x20, e21, hf⟩ := bd1_e hf
    refine g_iald (pc := 131) dd_M_findRota_128.2.1 e21 ?_
    obtain ⟨rfl, rfl⟩ := ret2 hf
    exact g_iret (pc := 132) rfl dd_M_findRota_128.2.2
  · replace hf := (if_neg c22).symm.trans hf
    refine g_iconst (pc := 9) (0 : Int32) dd_M_findRota_0.2.2.2.2.2.1 (by decide) ?_
    refine g_istore_n (pc := 10) [(2, .int (0 : Int32)), (0, .ref b0), (1, .int b1)] dd_M_findRota_0.2.2.2.2.2.2.1 rfl (Nat.le_of_ble_eq_true rfl) rfl ?_
    refine g_lv [1, 2, 0] rfl ?_
    exact t_M_findRota_11 rec5 hrec5 FU _ _ _ _ _ _  hf
def f_M_findRota_5  : Nat → Nat → Int32 → mH → Option (Int32 × mH)
  | 0 => fun _ _ _ => none
  | n + 1 => f_M_findRota_5b  (f_M_findRota_5  n)
theorem t_M_findRota_5 {sc : Nat × (Nat → Int32)}  : ∀ (n : Nat) (b0 : Nat) (b1 : Int32) (h : mH) (r : Int32) (h' : mH) (hf : f_M_findRota_5  n b0 b1 h = some (r, h')), G sc y_M_findRota prog_10_method_57_code 5 (some .int) 5 126 5 [(0, .ref b0), (1, .int b1)] [] h (some (.int r)) h'
  | 0, _, _, _, _, _, hf => by cases hf
  | n + 1, _, _, _, _, _, hf => t_M_findRota_5b  (f_M_findRota_5  n) (t_M_findRota_5  n) _ _ _ _ _ hf
def f_M_findRota_0  (a0 : Nat) (h : mH) : Option (Int32 × mH) :=
  bd1 (gI h a0 8 2) fun x1 =>
  f_M_findRota_5  FU a0 x1 h
set_option maxRecDepth 20000 in
theorem t_M_findRota_0 {sc : Nat × (Nat → Int32)}  (a0 : Nat) (h : mH) (r : Int32) (h' : mH) (hf : f_M_findRota_0  a0 h = some (r, h')) : G sc y_M_findRota prog_10_method_57_code 5 (some .int) 5 126 0 [(0, .ref a0)] [] h (some (.int r)) h' := by
  unfold f_M_findRota_0 at hf
  refine g_aload_n (pc := 0) 0 dd_M_findRota_0.1 rfl rfl ?_
  obtain ⟨x1, e2, hf⟩ := bd1_e hf
  refine g_get (pc := 1) (ci := 8) (kk := 2) dd_M_findRota_0.2.1 rfl in_M (by decide) wd_940 (gI_spec e2) ?_
  refine g_istore_n (pc := 4) [(1, .int x1), (0, .ref a0)] dd_M_findRota_0.2.2.1 rfl (Nat.le_of_ble_eq_true rfl) rfl ?_
  refine g_lv [1, 0] rfl ?_
  exact t_M_findRota_5  FU _ _ _ _ _  hf
def f_M_findRota (a0 : Nat) (h : mH) : Option (Int32 × mH) := f_M_findRota_0 a0 h
theorem c_M_findRota {sc : Nat × (Nat → Int32)} {a0 : Nat} {h : mH} {r : Int32} {h' : mH} (hf : f_M_findRota a0 h = some (r, h')) : MM sc y_M_findRota prog_10_method_57_code 5 (some .int) 5 126 [.ref a0] h (some (.int r)) h' :=
  mm_of_G si_pn_M (Nat.le_of_ble_eq_true rfl) (t_M_findRota_0 _ _ _ _ hf)
/-! M sharesOf (IIII)V -/
set_option maxRecDepth 100000 in
theorem dd_M_sharesOf_0 : (decode prog_10_method_59_code 0 = .ok (.aload_n 0, 1)) ∧ (decode prog_10_method_59_code 1 = .ok (.getfield 53, 3)) ∧ (decode prog_10_method_59_code 4 = .ok (.iload_n 1, 1)) ∧ (decode prog_10_method_59_code 5 = .ok (.iload_n 2, 1)) ∧ (decode prog_10_method_59_code 6 = .ok (.iload_n 3, 1)) ∧ (decode prog_10_method_59_code 7 = .ok (.iload 4, 2)) ∧ (decode prog_10_method_59_code 9 = .ok (.invokestatic 247, 3)) ∧ (decode prog_10_method_59_code 12 = .ok (.iaload, 1)) ∧ (decode prog_10_method_59_code 13 = .ok (.istore 5, 2)) ∧ (decode prog_10_method_59_code 15 = .ok (.iconst 0, 1)) ∧ (decode prog_10_method_59_code 16 = .ok (.istore 6, 2)) ∧ (decode prog_10_method_59_code 18 = .ok (.iconst 0, 1)) ∧ (decode prog_10_method_59_code 19 = .ok (.istore 7, 2)) ∧ (decode prog_10_method_59_code 21 = .ok (.iload 7, 2)) ∧ (decode prog_10_method_59_code 23 = .ok (.iconst 3, 1)) ∧ (decode prog_10_method_59_code 24 = .ok (.if_icmp .gt 103, 3)) ∧ (decode prog_10_method_59_code 27 = .ok (.iconst 0, 1)) ∧ (decode prog_10_method_59_code 28 = .ok (.istore 8, 2)) ∧ (decode prog_10_method_59_code 30 = .ok (.iload 8, 2)) ∧ (decode prog_10_method_59_code 32 = .ok (.iconst 3, 1)) ∧ (decode prog_10_method_59_code 33 = .ok (.if_icmp .gt 88, 3)) ∧ (decode prog_10_method_59_code 36 = .ok (.aload_n 0, 1)) ∧ (decode prog_10_method_59_code 37 = .ok (.getfield 56, 3)) ∧ (decode prog_10_method_59_code 40 = .ok (.iload_n 1, 1)) := by
  have h : List.drop 0 prog_10_method_59_code.data.toList = 0x2a :: _ := rfl
  refine ⟨zq_k_n 42 h rfl (zq_o_42 _), ?_⟩
  replace h := zq_nx1 (q := 1) h rfl
  refine ⟨zq_k_u2 180 (fun z => .getfield z) 53 h rfl (zq_o_180 _) (by decide +kernel), ?_⟩
  replace h := zq_nx3 (q := 4) h rfl
  refine ⟨zq_k_n 27 h rfl (zq_o_27 _), ?_⟩
  replace h := zq_nx1 (q := 5) h rfl
  refine ⟨zq_k_n 28 h rfl (zq_o_28 _), ?_⟩
  replace h := zq_nx1 (q := 6) h rfl
  refine ⟨zq_k_n 29 h rfl (zq_o_29 _), ?_⟩
  replace h := zq_nx1 (q := 7) h rfl
  refine ⟨zq_k_u1 21 (fun z => .iload z) 4 h rfl (zq_o_21 _) (by decide +kernel), ?_⟩
  replace h := zq_nx2 (q := 9) h rfl
  refine ⟨zq_k_u2 184 (fun z => .invokestatic z) 247 h rfl (zq_o_184 _) (by decide +kernel), ?_⟩
  replace h := zq_nx3 (q := 12) h rfl
  refine ⟨zq_k_n 46 h rfl (zq_o_46 _), ?_⟩
  replace h := zq_nx1 (q := 13) h rfl
  refine ⟨zq_k_u1 54 (fun z => .istore z) 5 h rfl (zq_o_54 _) (by decide +kernel), ?_⟩
  replace h := zq_nx2 (q := 15) h rfl
  refine ⟨zq_k_n 3 h rfl (zq_o_3 _), ?_⟩
  replace h := zq_nx1 (q := 16) h rfl
  refine ⟨zq_k_u1 54 (fun z => .istore z) 6 h rfl (zq_o_54 _) (by decide +kernel), ?_⟩
  replace h := zq_nx2 (q := 18) h rfl
  refine ⟨zq_k_n 3 h rfl (zq_o_3 _), ?_⟩
  replace h := zq_nx1 (q := 19) h rfl
  refine ⟨zq_k_u1 54 (fun z => .istore z) 7 h rfl (zq_o_54 _) (by decide +kernel), ?_⟩
  replace h := zq_nx2 (q := 21) h rfl
  refine ⟨zq_k_u1 21 (fun z => .iload z) 7 h rfl (zq_o_21 _) (by decide +kernel), ?_⟩
  replace h := zq_nx2 (q := 23) h rfl
  refine ⟨zq_k_n 6 h rfl (zq_o_6 _), ?_⟩
  replace h := zq_nx1 (q := 24) h rfl
  refine ⟨zq_k_s2 163 (fun z => .if_icmp .gt z) 103 h rfl (zq_o_163 _) (by decide +kernel), ?_⟩
  replace h := zq_nx3 (q := 27) h rfl
  refine ⟨zq_k_n 3 h rfl (zq_o_3 _), ?_⟩
  replace h := zq_nx1 (q := 28) h rfl
  refine ⟨zq_k_u1 54 (fun z => .istore z) 8 h rfl (zq_o_54 _) (by decide +kernel), ?_⟩
  replace h := zq_nx2 (q := 30) h rfl
  refine ⟨zq_k_u1 21 (fun z => .iload z) 8 h rfl (zq_o_21 _) (by decide +kernel), ?_⟩
  replace h := zq_nx2 (q := 32) h rfl
  refine ⟨zq_k_n 6 h rfl (zq_o_6 _), ?_⟩
  replace h := zq_nx1 (q := 33) h rfl
  refine ⟨zq_k_s2 163 (fun z => .if_icmp .gt z) 88 h rfl (zq_o_163 _) (by decide +kernel), ?_⟩
  replace h := zq_nx3 (q := 36) h rfl
  refine ⟨zq_k_n 42 h rfl (zq_o_42 _), ?_⟩
  replace h := zq_nx1 (q := 37) h rfl
  refine ⟨zq_k_u2 180 (fun z => .getfield z) 56 h rfl (zq_o_180 _) (by decide +kernel), ?_⟩
  replace h := zq_nx3 (q := 40) h rfl
  exact zq_k_n 27 h rfl (zq_o_27 _)
set_option maxRecDepth 100000 in
theorem dd_M_sharesOf_41 : (decode prog_10_method_59_code 41 = .ok (.iaload, 1)) ∧ (decode prog_10_method_59_code 42 = .ok (.iload 7, 2)) ∧ (decode prog_10_method_59_code 44 = .ok (.isub, 1)) ∧ (decode prog_10_method_59_code 45 = .ok (.iload 8, 2)) ∧ (decode prog_10_method_59_code 47 = .ok (.isub, 1)) ∧ (decode prog_10_method_59_code 48 = .ok (.istore 9, 2)) ∧ (decode prog_10_method_59_code 50 = .ok (.iload 6, 2)) ∧ (decode prog_10_method_59_code 52 = .ok (.ifCond .ne 63, 3)) ∧ (decode prog_10_method_59_code 55 = .ok (.iload 9, 2)) ∧ (decode prog_10_method_59_code 57 = .ok (.i2l, 1)) ∧ (decode prog_10_method_59_code 58 = .ok (.lconst 0, 1)) ∧ (decode prog_10_method_59_code 59 = .ok (.ldc2_w 251, 3)) ∧ (decode prog_10_method_59_code 62 = .ok (.invokestatic 114, 3)) ∧ (decode prog_10_method_59_code 65 = .ok (.ifCond .eq 50, 3)) ∧ (decode prog_10_method_59_code 68 = .ok (.aload_n 0, 1)) ∧ (decode prog_10_method_59_code 69 = .ok (.iload_n 1, 1)) ∧ (decode prog_10_method_59_code 70 = .ok (.iload_n 2, 1)) ∧ (decode prog_10_method_59_code 71 = .ok (.iload_n 3, 1)) ∧ (decode prog_10_method_59_code 72 = .ok (.iload 4, 2)) ∧ (decode prog_10_method_59_code 74 = .ok (.iload 7, 2)) ∧ (decode prog_10_method_59_code 76 = .ok (.iload 8, 2)) ∧ (decode prog_10_method_59_code 78 = .ok (.iload 9, 2)) ∧ (decode prog_10_method_59_code 80 = .ok (.invokevirtual 253, 3)) ∧ (decode prog_10_method_59_code 83 = .ok (.iload 5, 2)) := by
  have h : List.drop 41 prog_10_method_59_code.data.toList = 0x2e :: _ := rfl
  refine ⟨zq_k_n 46 h rfl (zq_o_46 _), ?_⟩
  replace h := zq_nx1 (q := 42) h rfl
  refine ⟨zq_k_u1 21 (fun z => .iload z) 7 h rfl (zq_o_21 _) (by decide +kernel), ?_⟩
  replace h := zq_nx2 (q := 44) h rfl
  refine ⟨zq_k_n 100 h rfl (zq_o_100 _), ?_⟩
  replace h := zq_nx1 (q := 45) h rfl
  refine ⟨zq_k_u1 21 (fun z => .iload z) 8 h rfl (zq_o_21 _) (by decide +kernel), ?_⟩
  replace h := zq_nx2 (q := 47) h rfl
  refine ⟨zq_k_n 100 h rfl (zq_o_100 _), ?_⟩
  replace h := zq_nx1 (q := 48) h rfl
  refine ⟨zq_k_u1 54 (fun z => .istore z) 9 h rfl (zq_o_54 _) (by decide +kernel), ?_⟩
  replace h := zq_nx2 (q := 50) h rfl
  refine ⟨zq_k_u1 21 (fun z => .iload z) 6 h rfl (zq_o_21 _) (by decide +kernel), ?_⟩
  replace h := zq_nx2 (q := 52) h rfl
  refine ⟨zq_k_s2 154 (fun z => .ifCond .ne z) 63 h rfl (zq_o_154 _) (by decide +kernel), ?_⟩
  replace h := zq_nx3 (q := 55) h rfl
  refine ⟨zq_k_u1 21 (fun z => .iload z) 9 h rfl (zq_o_21 _) (by decide +kernel), ?_⟩
  replace h := zq_nx2 (q := 57) h rfl
  refine ⟨zq_k_n 133 h rfl (zq_o_133 _), ?_⟩
  replace h := zq_nx1 (q := 58) h rfl
  refine ⟨zq_k_n 9 h rfl (zq_o_9 _), ?_⟩
  replace h := zq_nx1 (q := 59) h rfl
  refine ⟨zq_k_u2 20 (fun z => .ldc2_w z) 251 h rfl (zq_o_20 _) (by decide +kernel), ?_⟩
  replace h := zq_nx3 (q := 62) h rfl
  refine ⟨zq_k_u2 184 (fun z => .invokestatic z) 114 h rfl (zq_o_184 _) (by decide +kernel), ?_⟩
  replace h := zq_nx3 (q := 65) h rfl
  refine ⟨zq_k_s2 153 (fun z => .ifCond .eq z) 50 h rfl (zq_o_153 _) (by decide +kernel), ?_⟩
  replace h := zq_nx3 (q := 68) h rfl
  refine ⟨zq_k_n 42 h rfl (zq_o_42 _), ?_⟩
  replace h := zq_nx1 (q := 69) h rfl
  refine ⟨zq_k_n 27 h rfl (zq_o_27 _), ?_⟩
  replace h := zq_nx1 (q := 70) h rfl
  refine ⟨zq_k_n 28 h rfl (zq_o_28 _), ?_⟩
  replace h := zq_nx1 (q := 71) h rfl
  refine ⟨zq_k_n 29 h rfl (zq_o_29 _), ?_⟩
  replace h := zq_nx1 (q := 72) h rfl
  refine ⟨zq_k_u1 21 (fun z => .iload z) 4 h rfl (zq_o_21 _) (by decide +kernel), ?_⟩
  replace h := zq_nx2 (q := 74) h rfl
  refine ⟨zq_k_u1 21 (fun z => .iload z) 7 h rfl (zq_o_21 _) (by decide +kernel), ?_⟩
  replace h := zq_nx2 (q := 76) h rfl
  refine ⟨zq_k_u1 21 (fun z => .iload z) 8 h rfl (zq_o_21 _) (by decide +kernel), ?_⟩
  replace h := zq_nx2 (q := 78) h rfl
  refine ⟨zq_k_u1 21 (fun z => .iload z) 9 h rfl (zq_o_21 _) (by decide +kernel), ?_⟩
  replace h := zq_nx2 (q := 80) h rfl
  refine ⟨zq_k_u2 182 (fun z => .invokevirtual z) 253 h rfl (zq_o_182 _) (by decide +kernel), ?_⟩
  replace h := zq_nx3 (q := 83) h rfl
  exact zq_k_u1 21 (fun z => .iload z) 5 h rfl (zq_o_21 _) (by decide +kernel)
set_option maxRecDepth 100000 in
theorem dd_M_sharesOf_85 : (decode prog_10_method_59_code 85 = .ok (.if_icmp .ne 30, 3)) ∧ (decode prog_10_method_59_code 88 = .ok (.aload_n 0, 1)) ∧ (decode prog_10_method_59_code 89 = .ok (.getfield 62, 3)) ∧ (decode prog_10_method_59_code 92 = .ok (.iconst 0, 1)) ∧ (decode prog_10_method_59_code 93 = .ok (.iload 7, 2)) ∧ (decode prog_10_method_59_code 95 = .ok (.iastore, 1)) ∧ (decode prog_10_method_59_code 96 = .ok (.aload_n 0, 1)) ∧ (decode prog_10_method_59_code 97 = .ok (.getfield 62, 3)) ∧ (decode prog_10_method_59_code 100 = .ok (.iconst 1, 1)) ∧ (decode prog_10_method_59_code 101 = .ok (.iload 8, 2)) ∧ (decode prog_10_method_59_code 103 = .ok (.iastore, 1)) ∧ (decode prog_10_method_59_code 104 = .ok (.aload_n 0, 1)) ∧ (decode prog_10_method_59_code 105 = .ok (.getfield 62, 3)) ∧ (decode prog_10_method_59_code 108 = .ok (.iconst 2, 1)) ∧ (decode prog_10_method_59_code 109 = .ok (.iload 9, 2)) ∧ (decode prog_10_method_59_code 111 = .ok (.iastore, 1)) ∧ (decode prog_10_method_59_code 112 = .ok (.iconst 1, 1)) ∧ (decode prog_10_method_59_code 113 = .ok (.istore 6, 2)) ∧ (decode prog_10_method_59_code 115 = .ok (.iinc 8 1, 3)) ∧ (decode prog_10_method_59_code 118 = .ok (.goto (-88), 3)) ∧ (decode prog_10_method_59_code 121 = .ok (.iinc 7 1, 3)) ∧ (decode prog_10_method_59_code 124 = .ok (.goto (-103), 3)) ∧ (decode prog_10_method_59_code 127 = .ok (.return_, 1)) := by
  have h : List.drop 85 prog_10_method_59_code.data.toList = 0xa0 :: _ := rfl
  refine ⟨zq_k_s2 160 (fun z => .if_icmp .ne z) 30 h rfl (zq_o_160 _) (by decide +kernel), ?_⟩
  replace h := zq_nx3 (q := 88) h rfl
  refine ⟨zq_k_n 42 h rfl (zq_o_42 _), ?_⟩
  replace h := zq_nx1 (q := 89) h rfl
  refine ⟨zq_k_u2 180 (fun z => .getfield z) 62 h rfl (zq_o_180 _) (by decide +kernel), ?_⟩
  replace h := zq_nx3 (q := 92) h rfl
  refine ⟨zq_k_n 3 h rfl (zq_o_3 _), ?_⟩
  replace h := zq_nx1 (q := 93) h rfl
  refine ⟨zq_k_u1 21 (fun z => .iload z) 7 h rfl (zq_o_21 _) (by decide +kernel), ?_⟩
  replace h := zq_nx2 (q := 95) h rfl
  refine ⟨zq_k_n 79 h rfl (zq_o_79 _), ?_⟩
  replace h := zq_nx1 (q := 96) h rfl
  refine ⟨zq_k_n 42 h rfl (zq_o_42 _), ?_⟩
  replace h := zq_nx1 (q := 97) h rfl
  refine ⟨zq_k_u2 180 (fun z => .getfield z) 62 h rfl (zq_o_180 _) (by decide +kernel), ?_⟩
  replace h := zq_nx3 (q := 100) h rfl
  refine ⟨zq_k_n 4 h rfl (zq_o_4 _), ?_⟩
  replace h := zq_nx1 (q := 101) h rfl
  refine ⟨zq_k_u1 21 (fun z => .iload z) 8 h rfl (zq_o_21 _) (by decide +kernel), ?_⟩
  replace h := zq_nx2 (q := 103) h rfl
  refine ⟨zq_k_n 79 h rfl (zq_o_79 _), ?_⟩
  replace h := zq_nx1 (q := 104) h rfl
  refine ⟨zq_k_n 42 h rfl (zq_o_42 _), ?_⟩
  replace h := zq_nx1 (q := 105) h rfl
  refine ⟨zq_k_u2 180 (fun z => .getfield z) 62 h rfl (zq_o_180 _) (by decide +kernel), ?_⟩
  replace h := zq_nx3 (q := 108) h rfl
  refine ⟨zq_k_n 5 h rfl (zq_o_5 _), ?_⟩
  replace h := zq_nx1 (q := 109) h rfl
  refine ⟨zq_k_u1 21 (fun z => .iload z) 9 h rfl (zq_o_21 _) (by decide +kernel), ?_⟩
  replace h := zq_nx2 (q := 111) h rfl
  refine ⟨zq_k_n 79 h rfl (zq_o_79 _), ?_⟩
  replace h := zq_nx1 (q := 112) h rfl
  refine ⟨zq_k_n 4 h rfl (zq_o_4 _), ?_⟩
  replace h := zq_nx1 (q := 113) h rfl
  refine ⟨zq_k_u1 54 (fun z => .istore z) 6 h rfl (zq_o_54 _) (by decide +kernel), ?_⟩
  replace h := zq_nx2 (q := 115) h rfl
  refine ⟨zq_k_iinc 8 1 h rfl (zq_o_132 _) (by decide +kernel) (by decide +kernel), ?_⟩
  replace h := zq_nx3 (q := 118) h rfl
  refine ⟨zq_k_s2 167 (fun z => .goto z) (-88) h rfl (zq_o_167 _) (by decide +kernel), ?_⟩
  replace h := zq_nx3 (q := 121) h rfl
  refine ⟨zq_k_iinc 7 1 h rfl (zq_o_132 _) (by decide +kernel) (by decide +kernel), ?_⟩
  replace h := zq_nx3 (q := 124) h rfl
  refine ⟨zq_k_s2 167 (fun z => .goto z) (-103) h rfl (zq_o_167 _) (by decide +kernel), ?_⟩
  replace h := zq_nx3 (q := 127) h rfl
  exact zq_k_n 177 h rfl (zq_o_177 _)
def f_M_sharesOf_115 (rec21 : Nat → Int32 → Int32 → Int32 → Int32 → Int32 → Int32 → Int32 → mH → Option mH) (rec30 : Nat → Int32 → Int32 → Int32 → Int32 → Int32 → Int32 → Int32 → Int32 → mH → Option mH) (b0 : Nat) (b1 : Int32) (b2 : Int32) (b3 : Int32) (b4 : Int32) (b5 : Int32) (b6 : Int32) (b7 : Int32) (b8 : Int32) (h : mH) : Option mH :=
  rec30 b0 b1 b2 b3 b4 b5 b6 b7 (b8 + (1 : Int32)) h
set_option maxRecDepth 20000 in
theorem t_M_sharesOf_115 {sc : Nat × (Nat → Int32)} (rec21 : Nat → Int32 → Int32 → Int32 → Int32 → Int32 → Int32 → Int32 → mH → Option mH) (hrec21 : ∀ (b0 : Nat) (b1 : Int32) (b2 : Int32) (b3 : Int32) (b4 : Int32) (b5 : Int32) (b6 : Int32) (b7 : Int32) (h : mH) (h' : mH), rec21 b0 b1 b2 b3 b4 b5 b6 b7 h = some h' → G sc y_M_sharesOf prog_10_method_59_code 10 none 4 97 21 [(0, .ref b0), (1, .int b1), (2, .int b2), (3, .int b3), (4, .int b4), (5, .int b5), (6, .int b6), (7, .int b7)] [] h none h') (rec30 : Nat → Int32 → Int32 → Int32 → Int32 → Int32 → Int32 → Int32 → Int32 → mH → Option mH) (hrec30 : ∀ (b0 : Nat) (b1 : Int32) (b2 : Int32) (b3 : Int32) (b4 : Int32) (b5 : Int32) (b6 : Int32) (b7 : Int32) (b8 : Int32) (h : mH) (h' : mH), rec30 b0 b1 b2 b3 b4 b5 b6 b7 b8 h = some h' → G sc y_M_sharesOf prog_10_method_59_code 10 none 4 97 30 [(0, .ref b0), (1, .int b1), (2, .int b2), (3, .int b3), (4, .int b4), (5, .int b5), (6, .int b6), (7, .int b7), (8, .int b8)] [] h none h') (b0 : Nat) (b1 : Int32) (b2 : Int32) (b3 : Int32) (b4 : Int32) (b5 : Int32) (b6 : Int32) (b7 : Int32) (b8 : Int32) (h : mH) (h' : mH) (hf : f_M_sharesOf_115 rec21 rec30 b0 b1 b2 b3 b4 b5 b6 b7 b8 h = some h') : G sc y_M_sharesOf prog_10_method_59_code 10 none 4 97 115 [(0, .ref b0), (1, .int b1), (2, .int b2), (3, .int b3), (4, .int b4), (5, .int b5), (6, .int b6), (7, .int b7), (8, .int b8)] [] h none h' := by
  unfold f_M_sharesOf_115 at hf
  refine g_iinc (pc := 115) 8 (b8 + (1 : Int32)) [(8, .int (b8 + (1 : Int32))), (0, .ref b0), (1, .int b1), (2, .int b2), (3, .int b3), (4, .int b4), (5, .int b5), (6, .int b6), (7, .int b7)] dd_M_sharesOf_85.2.2.2.2.2.2.2.2.2.2.2.2.2.2.2.2.2.2.1 rfl rfl (Nat.le_of_ble_eq_true rfl) rfl ?_
  refine g_goto (pc := 118) 30 dd_M_sharesOf_85.2.2.2.2.2.2.2.2.2.2.2.2.2.2.2.2.2.2.2.1 (by decide) ?_
  refine g_lv [1, 2, 3, 4, 5, 6, 7, 8, 0] rfl ?_
  exact hrec30 _ _ _ _ _ _ _ _ _ _ _  hf
def f_M_sharesOf_30b (rec21 : Nat → Int32 → Int32 → Int32 → Int32 → Int32 → Int32 → Int32 → mH → Option mH) (rec30 : Nat → Int32 → Int32 → Int32 → Int32 → Int32 → Int32 → Int32 → Int32 → mH → Option mH) (b0 : Nat) (b1 : Int32) (b2 : Int32) (b3 : Int32) (b4 : Int32) (b5 : Int32) (b6 : Int32) (b7 : Int32) (b8 : Int32) (h : mH) : Option mH :=
  if (3 : Int32) < b8 then
    rec21 b0 b1 b2 b3 b4 b5 b6 (b7 + (1 : Int32)) h
  else
    bd1 (gR h b0 8 28) fun x9 =>
    bd1 (aI h 0 x9 b1) fun x11 =>
    if b6 = 0 then
      bd2 (f_M_in (((x11 - b7) - b8).toInt64) (0 : Int64) (3 : Int64) h) fun x15 h13 =>
      if x15 = 0 then
        f_M_sharesOf_115 rec21 rec30 b0 b1 b2 b3 b4 b5 b6 b7 b8 h13
      else
        bd1 (kC h13 b0 8) fun _ =>
        bd2 (f_M_harmBy b0 b1 b2 b3 b4 b7 b8 ((x11 - b7) - b8) h13) fun x20 h18 =>
        if x20 = b5 then
          bd1 (gR h18 b0 8 30) fun x21 =>
          bd1 (sI h18 0 x21 (0 : Int32) b7) fun h23 =>
          bd1 (gR h23 b0 8 30) fun x25 =>
          bd1 (sI h23 0 x25 (1 : Int32) b8) fun h27 =>
          bd1 (gR h27 b0 8 30) fun x29 =>
          bd1 (sI h27 0 x29 (2 : Int32) ((x11 - b7) - b8)) fun h31 =>
          f_M_sharesOf_115 rec21 rec30 b0 b1 b2 b3 b4 b5 (1 : Int32) b7 b8 h31
        else
          f_M_sharesOf_115 rec21 rec30 b0 b1 b2 b3 b4 b5 b6 b7 b8 h18
    else
      f_M_sharesOf_115 rec21 rec30 b0 b1 b2 b3 b4 b5 b6 b7 b8 h
set_option maxRecDepth 20000 in
theorem t_M_sharesOf_30b {sc : Nat × (Nat → Int32)} (rec21 : Nat → Int32 → Int32 → Int32 → Int32 → Int32 → Int32 → Int32 → mH → Option mH) (hrec21 : ∀ (b0 : Nat) (b1 : Int32) (b2 : Int32) (b3 : Int32) (b4 : Int32) (b5 : Int32) (b6 : Int32) (b7 : Int32) (h : mH) (h' : mH), rec21 b0 b1 b2 b3 b4 b5 b6 b7 h = some h' → G sc y_M_sharesOf prog_10_method_59_code 10 none 4 97 21 [(0, .ref b0), (1, .int b1), (2, .int b2), (3, .int b3), (4, .int b4), (5, .int b5), (6, .int b6), (7, .int b7)] [] h none h') (rec30 : Nat → Int32 → Int32 → Int32 → Int32 → Int32 → Int32 → Int32 → Int32 → mH → Option mH) (hrec30 : ∀ (b0 : Nat) (b1 : Int32) (b2 : Int32) (b3 : Int32) (b4 : Int32) (b5 : Int32) (b6 : Int32) (b7 : Int32) (b8 : Int32) (h : mH) (h' : mH), rec30 b0 b1 b2 b3 b4 b5 b6 b7 b8 h = some h' → G sc y_M_sharesOf prog_10_method_59_code 10 none 4 97 30 [(0, .ref b0), (1, .int b1), (2, .int b2), (3, .int b3), (4, .int b4), (5, .int b5), (6, .int b6), (7, .int b7), (8, .int b8)] [] h none h') (b0 : Nat) (b1 : Int32) (b2 : Int32) (b3 : Int32) (b4 : Int32) (b5 : Int32) (b6 : Int32) (b7 : Int32) (b8 : Int32) (h : mH) (h' : mH) (hf : f_M_sharesOf_30b rec21 rec30 b0 b1 b2 b3 b4 b5 b6 b7 b8 h = some h') : G sc y_M_sharesOf prog_10_method_59_code 10 none 4 97 30 [(0, .ref b0), (1, .int b1), (2, .int b2), (3, .int b3), (4, .int b4), (5, .int b5), (6, .int b6), (7, .int b7), (8, .int b8)] [] h none h' := by
  unfold f_M_sharesOf_30b at hf
  refine g_iload (pc := 30) 8 dd_M_sharesOf_0.2.2.2.2.2.2.2.2.2.2.2.2.2.2.2.2.2.2.1 rfl ?_
  refine g_iconst (pc := 32) (3 : Int32) dd_M_sharesOf_0.2.2.2.2.2.2.2.2.2.2.2.2.2.2.2.2.2.2.2.1 (by decide) ?_
  refine g_icmpgt (pc := 33) 121 dd_M_sharesOf_0.2.2.2.2.2.2.2.2.2.2.2.2.2.2.2.2.2.2.2.2.1 (by decide) (fun c36 => ?_) (fun c36 => ?_)
  · replace hf := (if_pos c36).symm.trans hf
    refine g_iinc (pc := 121) 7 (b7 + (1 : Int32)) [(7, .int (b7 + (1 : Int32))), (0, .ref b0), (1, .int b1), (2, .int b2), (3, .int b3), (4, .int b4), (5, .int b5), (6, .int b6), (8, .int b8)] dd_M_sharesOf_85.2.2.2.2.2.2.2.2.2.2.2.2.2.2.2.2.2.2.2.2.1 rfl rfl (Nat.le_of_ble_eq_true rfl) rfl ?_
    refine g_goto (pc := 124) 21 dd_M_sharesOf_85.2.2.2.2.2.2.2.2.2.2.2.2.2.2.2.2.2.2.2.2.2.1 (by decide) ?_
    refine g_lv [1, 2, 3, 4, 5, 6, 7, 0] rfl ?_
    exact hrec21 _ _ _ _ _ _ _ _ _ _  hf
  · replace hf := (if_neg c36).symm.trans hf
    refine g_aload_n (pc := 36) 0 dd_M_sharesOf_0.2.2.2.2.2.2.2.2.2.2.2.2.2.2.2.2.2.2.2.2.2.1 rfl rfl ?_
    obtain ⟨x9, e10, hf⟩ := bd1_e hf
    refine g_get (pc := 37) (ci := 8) (kk := 28) dd_M_sharesOf_0.2.2.2.2.2.2.2.2.2.2.2.2.2.2.2.2.2.2.2.2.2.2.1 rfl in_M (by decide) wd_966 (gR_spec e10) ?_
    refine g_iload_n (pc := 40) 1 dd_M_sharesOf_0.2.2.2.2.2.2.2.2.2.2.2.2.2.2.2.2.2.2.2.2.2.2.2 rfl rfl ?_
    obtain ⟨x11, e12, hf⟩ := bd1_e hf
    refine g_iald (pc := 41) dd_M_sharesOf_41.1 e12 ?_
    refine g_iload (pc := 42) 7 dd_M_sharesOf_41.2.1 rfl ?_
    refine g_isub (pc := 44) dd_M_sharesOf_41.2.2.1 ?_
    refine g_iload (pc := 45) 8 dd_M_sharesOf_41.2.2.2.1 rfl ?_
    refine g_isub (pc := 47) dd_M_sharesOf_41.2.2.2.2.1 ?_
    refine g_istore (pc := 48) [(9, .int ((x11 - b7) - b8)), (0, .ref b0), (1, .int b1), (2, .int b2), (3, .int b3), (4, .int b4), (5, .int b5), (6, .int b6), (7, .int b7), (8, .int b8)] dd_M_sharesOf_41.2.2.2.2.2.1 (Nat.le_of_ble_eq_true rfl) rfl ?_
    refine g_iload (pc := 50) 7 dd_M_sharesOf_41.2.2.2.2.2.2.1 rfl ?_
    refine g_ifne (pc := 52) 115 dd_M_sharesOf_41.2.2.2.2.2.2.2.1 (by decide) (fun c35 => ?_) (fun c35 => ?_)
    · replace hf := (if_neg c35).symm.trans hf
      refine g_lv [1, 2, 3, 4, 5, 6, 7, 8, 9] rfl ?_
      exact t_M_sharesOf_115 rec21 hrec21 rec30 hrec30 _ _ _ _ _ _ _ _ _ _ _  hf
    · replace hf := (if_pos c35).symm.trans hf
      refine g_iload (pc := 55) 0 dd_M_sharesOf_41.2.2.2.2.2.2.2.2.1 rfl ?_
      refine g_i2l (pc := 57) dd_M_sharesOf_41.2.2.2.2.2.2.2.2.2.1 ?_
      refine g_lconst (pc := 58) (0 : Int64) dd_M_sharesOf_41.2.2.2.2.2.2.2.2.2.2.1 (by decide) ?_
      refine g_ldc2 (pc := 59) (3 : Int64) dd_M_sharesOf_41.2.2.2.2.2.2.2.2.2.2.2.1 wd_1273 ?_
      obtain ⟨x15, h13, e14, hf⟩ := bd2_e hf
      refine g_callS (pc := 62) [.long (((x11 - b7) - b8).toInt64), .long (0 : Int64), .long (3 : Int64)] (site_of si_M_in (by decide) (by decide)) wd_1061 wd_1062 dd_M_sharesOf_41.2.2.2.2.2.2.2.2.2.2.2.2.1 (Nat.le_of_ble_eq_true rfl) (fun z => absurd z si_na_M_in) (fun z => absurd z si_na_M_in) (fun z => absurd z si_na_M_in) (c_M_in e14) rfl ?_
      refine g_st [.int x15] rfl ?_
      refine g_ifeq (pc := 65) 115 dd_M_sharesOf_41.2.2.2.2.2.2.2.2.2.2.2.2.2.1 (by decide) (fun c34 => ?_) (fun c34 => ?_)
      · replace hf := (if_pos c34).symm.trans hf
        refine g_lv [1, 2, 3, 4, 5, 6, 7, 8, 9] rfl ?_
        exact t_M_sharesOf_115 rec21 hrec21 rec30 hrec30 _ _ _ _ _ _ _ _ _ _ _  hf
      · replace hf := (if_neg c34).symm.trans hf
        refine g_aload_n (pc := 68) 1 dd_M_sharesOf_41.2.2.2.2.2.2.2.2.2.2.2.2.2.2.1 rfl rfl ?_
        refine g_iload_n (pc := 69) 2 dd_M_sharesOf_41.2.2.2.2.2.2.2.2.2.2.2.2.2.2.2.1 rfl rfl ?_
        refine g_iload_n (pc := 70) 3 dd_M_sharesOf_41.2.2.2.2.2.2.2.2.2.2.2.2.2.2.2.2.1 rfl rfl ?_
        refine g_iload_n (pc := 71) 4 dd_M_sharesOf_41.2.2.2.2.2.2.2.2.2.2.2.2.2.2.2.2.2.1 rfl rfl ?_
        refine g_iload (pc := 72) 5 dd_M_sharesOf_41.2.2.2.2.2.2.2.2.2.2.2.2.2.2.2.2.2.2.1 rfl ?_
        refine g_iload (pc := 74) 8 dd_M_sharesOf_41.2.2.2.2.2.2.2.2.2.2.2.2.2.2.2.2.2.2.2.1 rfl ?_
        refine g_iload (pc := 76) 9 dd_M_sharesOf_41.2.2.2.2.2.2.2.2.2.2.2.2.2.2.2.2.2.2.2.2.1 rfl ?_
        refine g_iload (pc := 78) 0 dd_M_sharesOf_41.2.2.2.2.2.2.2.2.2.2.2.2.2.2.2.2.2.2.2.2.2.1 rfl ?_
        obtain ⟨u17, e16, hf⟩ := bd1_e hf
        obtain ⟨x20, h18, e19, hf⟩ := bd2_e hf
        refine g_callV (pc := 80) (ci := 8) [.int b1, .int b2, .int b3, .int b4, .int b7, .int b8, .int ((x11 - b7) - b8)] (site_of si_M_harmBy (by decide) (by decide)) wd_1274 wd_1276 wp_60 dd_M_sharesOf_41.2.2.2.2.2.2.2.2.2.2.2.2.2.2.2.2.2.2.2.2.2.2.1 rfl e16 (Nat.le_of_ble_eq_true rfl) (fun z => absurd z si_na_M_harmBy) (fun z => absurd z si_na_M_harmBy) (fun z => absurd z si_na_M_harmBy) (c_M_harmBy e19) rfl ?_
        refine g_st [.int x20] rfl ?_
        refine g_iload (pc := 83) 6 dd_M_sharesOf_41.2.2.2.2.2.2.2.2.2.2.2.2.2.2.2.2.2.2.2.2.2.2.2 rfl ?_
        refine g_icmpne (pc := 85) 115 dd_M_sharesOf_85.1 (by decide) (fun c33 => ?_) (fun c33 => ?_)
        · replace hf := (if_neg c33).symm.trans hf
          refine g_lv [1, 2, 3, 4, 5, 6, 7, 8, 9] rfl ?_
          exact t_M_sharesOf_115 rec21 hrec21 rec30 hrec30 _ _ _ _ _ _ _ _ _ _ _  hf
        · replace hf := (if_pos c33).symm.trans hf
          refine g_aload_n (pc := 88) 1 dd_M_sharesOf_85.2.1 rfl rfl ?_
          obtain ⟨x21, e22, hf⟩ := bd1_e hf
          refine g_get (pc := 89) (ci := 8) (kk := 30) dd_M_sharesOf_85.2.2.1 rfl in_M (by decide) wd_968 (gR_spec e22) ?_
          refine g_iconst (pc := 92) (0 : Int32) dd_M_sharesOf_85.2.2.2.1 (by decide) ?_
          refine g_iload (pc := 93) 8 dd_M_sharesOf_85.2.2.2.2.1 rfl ?_
          obtain ⟨h23, e24, hf⟩ := bd1_e hf
          refine g_iast (pc := 95) dd_M_sharesOf_85.2.2.2.2.2.1 e24 ?_
          refine g_aload_n (pc := 96) 1 dd_M_sharesOf_85.2.2.2.2.2.2.1 rfl rfl ?_
          obtain ⟨x25, e26, hf⟩ := bd1_e hf
          refine g_get (pc := 97) (ci := 8) (kk := 30) dd_M_sharesOf_85.2.2.2.2.2.2.2.1 rfl in_M (by decide) wd_968 (gR_spec e26) ?_
          refine g_iconst (pc := 100) (1 : Int32) dd_M_sharesOf_85.2.2.2.2.2.2.2.2.1 (by decide) ?_
          refine g_iload (pc := 101) 9 dd_M_sharesOf_85.2.2.2.2.2.2.2.2.2.1 rfl ?_
          obtain ⟨h27, e28, hf⟩ := bd1_e hf
          refine g_iast (pc := 103) dd_M_sharesOf_85.2.2.2.2.2.2.2.2.2.2.1 e28 ?_
          refine g_aload_n (pc := 104) 1 dd_M_sharesOf_85.2.2.2.2.2.2.2.2.2.2.2.1 rfl rfl ?_
          obtain ⟨x29, e30, hf⟩ := bd1_e hf
          refine g_get (pc := 105) (ci := 8) (kk := 30) dd_M_sharesOf_85.2.2.2.2.2.2.2.2.2.2.2.2.1 rfl in_M (by decide) wd_968 (gR_spec e30) ?_
          refine g_iconst (pc := 108) (2 : Int32) dd_M_sharesOf_85.2.2.2.2.2.2.2.2.2.2.2.2.2.1 (by decide) ?_
          refine g_iload (pc := 109) 0 dd_M_sharesOf_85.2.2.2.2.2.2.2.2.2.2.2.2.2.2.1 rfl ?_
          obtain ⟨h31, e32, hf⟩ := bd1_e hf
          refine g_iast (pc := 111) dd_M_sharesOf_85.2.2.2.2.2.2.2.2.2.2.2.2.2.2.2.1 e32 ?_
          refine g_iconst (pc := 112) (1 : Int32) dd_M_sharesOf_85.2.2.2.2.2.2.2.2.2.2.2.2.2.2.2.2.1 (by decide) ?_
          refine g_istore (pc := 113) [(6, .int (1 : Int32)), (9, .int ((x11 - b7) - b8)), (0, .ref b0), (1, .int b1), (2, .int b2), (3, .int b3), (4, .int b4), (5, .int b5), (7, .int b7), (8, .int b8)] dd_M_sharesOf_85.2.2.2.2.2.2.2.2.2.2.2.2.2.2.2.2.2.1 (Nat.le_of_ble_eq_true rfl) rfl ?_
          refine g_lv [2, 3, 4, 5, 6, 7, 0, 8, 9] rfl ?_
          exact t_M_sharesOf_115 rec21 hrec21 rec30 hrec30 _ _ _ _ _ _ _ _ _ _ _  hf
def f_M_sharesOf_30 (rec21 : Nat → Int32 → Int32 → Int32 → Int32 → Int32 → Int32 → Int32 → mH → Option mH) : Nat → Nat → Int32 → Int32 → Int32 → Int32 → Int32 → Int32 → Int32 → Int32 → mH → Option mH
  | 0 => fun _ _ _ _ _ _ _ _ _ _ => none
  | n + 1 => f_M_sharesOf_30b rec21 (f_M_sharesOf_30 rec21 n)
theorem t_M_sharesOf_30 {sc : Nat × (Nat → Int32)} (rec21 : Nat → Int32 → Int32 → Int32 → Int32 → Int32 → Int32 → Int32 → mH → Option mH) (hrec21 : ∀ (b0 : Nat) (b1 : Int32) (b2 : Int32) (b3 : Int32) (b4 : Int32) (b5 : Int32) (b6 : Int32) (b7 : Int32) (h : mH) (h' : mH), rec21 b0 b1 b2 b3 b4 b5 b6 b7 h = some h' → G sc y_M_sharesOf prog_10_method_59_code 10 none 4 97 21 [(0, .ref b0), (1, .int b1), (2, .int b2), (3, .int b3), (4, .int b4), (5, .int b5), (6, .int b6), (7, .int b7)] [] h none h') : ∀ (n : Nat) (b0 : Nat) (b1 : Int32) (b2 : Int32) (b3 : Int32) (b4 : Int32) (b5 : Int32) (b6 : Int32) (b7 : Int32) (b8 : Int32) (h : mH) (h' : mH) (hf : f_M_sharesOf_30 rec21 n b0 b1 b2 b3 b4 b5 b6 b7 b8 h = some h'), G sc y_M_sharesOf prog_10_method_59_code 10 none 4 97 30 [(0, .ref b0), (1, .int b1), (2, .int b2), (3, .int b3), (4, .int b4), (5, .int b5), (6, .int b6), (7, .int b7), (8, .int b8)] [] h none h'
  | 0, _, _, _, _, _, _, _, _, _, _, _, hf => by cases hf
  | n + 1, _, _, _, _, _, _, _, _, _, _, _, hf => t_M_sharesOf_30b rec21 hrec21 (f_M_sharesOf_30 rec21 n) (t_M_sharesOf_30 rec21 hrec21 n) _ _ _ _ _ _ _ _ _ _ _ hf
def f_M_sharesOf_21b (rec21 : Nat → Int32 → Int32 → Int32 → Int32 → Int32 → Int32 → Int32 → mH → Option mH) (b0 : Nat) (b1 : Int32) (b2 : Int32) (b3 : Int32) (b4 : Int32) (b5 : Int32) (b6 : Int32) (b7 : Int32) (h : mH) : Option mH :=
  if (3 : Int32) < b7 then
    some h
  else
    f_M_sharesOf_30 rec21 FU b0 b1 b2 b3 b4 b5 b6 b7 (0 : Int32) h
set_option maxRecDepth 20000 in
theorem t_M_sharesOf_21b {sc : Nat × (Nat → Int32)} (rec21 : Nat → Int32 → Int32 → Int32 → Int32 → Int32 → Int32 → Int32 → mH → Option mH) (hrec21 : ∀ (b0 : Nat) (b1 : Int32) (b2 : Int32) (b3 : Int32) (b4 : Int32) (b5 : Int32) (b6 : Int32) (b7 : Int32) (h : mH) (h' : mH), rec21 b0 b1 b2 b3 b4 b5 b6 b7 h = some h' → G sc y_M_sharesOf prog_10_method_59_code 10 none 4 97 21 [(0, .ref b0), (1, .int b1), (2, .int b2), (3, .int b3), (4, .int b4), (5, .int b5), (6, .int b6), (7, .int b7)] [] h none h') (b0 : Nat) (b1 : Int32) (b2 : Int32) (b3 : Int32) (b4 : Int32) (b5 : Int32) (b6 : Int32) (b7 : Int32) (h : mH) (h' : mH) (hf : f_M_sharesOf_21b rec21 b0 b1 b2 b3 b4 b5 b6 b7 h = some h') : G sc y_M_sharesOf prog_10_method_59_code 10 none 4 97 21 [(0, .ref b0), (1, .int b1), (2, .int b2), (3, .int b3), (4, .int b4), (5, .int b5), (6, .int b6), (7, .int b7)] [] h none h' := by
  unfold f_M_sharesOf_21b at hf
  refine g_iload (pc := 21) 7 dd_M_sharesOf_0.2.2.2.2.2.2.2.2.2.2.2.2.2.1 rfl ?_
  refine g_iconst (pc := 23) (3 : Int32) dd_M_sharesOf_0.2.2.2.2.2.2.2.2.2.2.2.2.2.2.1 (by decide) ?_
  refine g_icmpgt (pc := 24) 127 dd_M_sharesOf_0.2.2.2.2.2.2.2.2.2.2.2.2.2.2.2.1 (by decide) (fun c8 => ?_) (fun c8 => ?_)
  · replace hf := (if_pos c8).symm.trans hf
    obtain rfl := ret1 hf
    exact g_vret (pc := 127) rfl dd_M_sharesOf_85.2.2.2.2.2.2.2.2.2.2.2.2.2.2.2.2.2.2.2.2.2.2
  · replace hf := (if_neg c8).symm.trans hf
    refine g_iconst (pc := 27) (0 : Int32) dd_M_sharesOf_0.2.2.2.2.2.2.2.2.2.2.2.2.2.2.2.2.1 (by decide) ?_
    refine g_istore (pc := 28) [(8, .int (0 : Int32)), (0, .ref b0), (1, .int b1), (2, .int b2), (3, .int b3), (4, .int b4), (5, .int b5), (6, .int b6), (7, .int b7)] dd_M_sharesOf_0.2.2.2.2.2.2.2.2.2.2.2.2.2.2.2.2.2.1 (Nat.le_of_ble_eq_true rfl) rfl ?_
    refine g_lv [1, 2, 3, 4, 5, 6, 7, 8, 0] rfl ?_
    exact t_M_sharesOf_30 rec21 hrec21 FU _ _ _ _ _ _ _ _ _ _ _  hf
def f_M_sharesOf_21  : Nat → Nat → Int32 → Int32 → Int32 → Int32 → Int32 → Int32 → Int32 → mH → Option mH
  | 0 => fun _ _ _ _ _ _ _ _ _ => none
  | n + 1 => f_M_sharesOf_21b  (f_M_sharesOf_21  n)
theorem t_M_sharesOf_21 {sc : Nat × (Nat → Int32)}  : ∀ (n : Nat) (b0 : Nat) (b1 : Int32) (b2 : Int32) (b3 : Int32) (b4 : Int32) (b5 : Int32) (b6 : Int32) (b7 : Int32) (h : mH) (h' : mH) (hf : f_M_sharesOf_21  n b0 b1 b2 b3 b4 b5 b6 b7 h = some h'), G sc y_M_sharesOf prog_10_method_59_code 10 none 4 97 21 [(0, .ref b0), (1, .int b1), (2, .int b2), (3, .int b3), (4, .int b4), (5, .int b5), (6, .int b6), (7, .int b7)] [] h none h'
  | 0, _, _, _, _, _, _, _, _, _, _, hf => by cases hf
  | n + 1, _, _, _, _, _, _, _, _, _, _, hf => t_M_sharesOf_21b  (f_M_sharesOf_21  n) (t_M_sharesOf_21  n) _ _ _ _ _ _ _ _ _ _ hf
def f_M_sharesOf_0  (a0 : Nat) (a1 : Int32) (a2 : Int32) (a3 : Int32) (a4 : Int32) (h : mH) : Option mH :=
  bd1 (gR h a0 8 27) fun x1 =>
  bd2 (f_M_at a1 a2 a3 a4 h) fun x5 h3 =>
  bd1 (aI h3 0 x1 x5) fun x6 =>
  f_M_sharesOf_21  FU a0 a1 a2 a3 a4 x6 (0 : Int32) (0 : Int32) h3
set_option maxRecDepth 20000 in
theorem t_M_sharesOf_0 {sc : Nat × (Nat → Int32)}  (a0 : Nat) (a1 : Int32) (a2 : Int32) (a3 : Int32) (a4 : Int32) (h : mH) (h' : mH) (hf : f_M_sharesOf_0  a0 a1 a2 a3 a4 h = some h') : G sc y_M_sharesOf prog_10_method_59_code 10 none 4 97 0 [(0, .ref a0), (1, .int a1), (2, .int a2), (3, .int a3), (4, .int a4)] [] h none h' := by
  unfold f_M_sharesOf_0 at hf
  refine g_aload_n (pc := 0) 0 dd_M_sharesOf_0.1 rfl rfl ?_
  obtain ⟨x1, e2, hf⟩ := bd1_e hf
  refine g_get (pc := 1) (ci := 8) (kk := 27) dd_M_sharesOf_0.2.1 rfl in_M (by decide) wd_965 (gR_spec e2) ?_
  refine g_iload_n (pc := 4) 1 dd_M_sharesOf_0.2.2.1 rfl rfl ?_
  refine g_iload_n (pc := 5) 2 dd_M_sharesOf_0.2.2.2.1 rfl rfl ?_
  refine g_iload_n (pc := 6) 3 dd_M_sharesOf_0.2.2.2.2.1 rfl rfl ?_
  refine g_iload (pc := 7) 4 dd_M_sharesOf_0.2.2.2.2.2.1 rfl ?_
  obtain ⟨x5, h3, e4, hf⟩ := bd2_e hf
  refine g_callS (pc := 9) [.int a1, .int a2, .int a3, .int a4] (site_of si_M_at (by decide) (by decide)) wd_1265 wd_1266 dd_M_sharesOf_0.2.2.2.2.2.2.1 (Nat.le_of_ble_eq_true rfl) (fun z => absurd z si_na_M_at) (fun z => absurd z si_na_M_at) (fun z => absurd z si_na_M_at) (c_M_at e4) rfl ?_
  refine g_st [.int x5, .ref x1] rfl ?_
  obtain ⟨x6, e7, hf⟩ := bd1_e hf
  refine g_iald (pc := 12) dd_M_sharesOf_0.2.2.2.2.2.2.2.1 e7 ?_
  refine g_istore (pc := 13) [(5, .int x6), (0, .ref a0), (1, .int a1), (2, .int a2), (3, .int a3), (4, .int a4)] dd_M_sharesOf_0.2.2.2.2.2.2.2.2.1 (Nat.le_of_ble_eq_true rfl) rfl ?_
  refine g_iconst (pc := 15) (0 : Int32) dd_M_sharesOf_0.2.2.2.2.2.2.2.2.2.1 (by decide) ?_
  refine g_istore (pc := 16) [(6, .int (0 : Int32)), (5, .int x6), (0, .ref a0), (1, .int a1), (2, .int a2), (3, .int a3), (4, .int a4)] dd_M_sharesOf_0.2.2.2.2.2.2.2.2.2.2.1 (Nat.le_of_ble_eq_true rfl) rfl ?_
  refine g_iconst (pc := 18) (0 : Int32) dd_M_sharesOf_0.2.2.2.2.2.2.2.2.2.2.2.1 (by decide) ?_
  refine g_istore (pc := 19) [(7, .int (0 : Int32)), (6, .int (0 : Int32)), (5, .int x6), (0, .ref a0), (1, .int a1), (2, .int a2), (3, .int a3), (4, .int a4)] dd_M_sharesOf_0.2.2.2.2.2.2.2.2.2.2.2.2.1 (Nat.le_of_ble_eq_true rfl) rfl ?_
  refine g_lv [3, 4, 5, 6, 7, 2, 1, 0] rfl ?_
  exact t_M_sharesOf_21  FU _ _ _ _ _ _ _ _ _ _  hf
def f_M_sharesOf (a0 : Nat) (a1 : Int32) (a2 : Int32) (a3 : Int32) (a4 : Int32) (h : mH) : Option mH := f_M_sharesOf_0 a0 a1 a2 a3 a4 h
theorem c_M_sharesOf {sc : Nat × (Nat → Int32)} {a0 : Nat} {a1 : Int32} {a2 : Int32} {a3 : Int32} {a4 : Int32} {h : mH} {h' : mH} (hf : f_M_sharesOf a0 a1 a2 a3 a4 h = some h') : MM sc y_M_sharesOf prog_10_method_59_code 10 none 4 97 [.ref a0, .int a1, .int a2, .int a3, .int a4] h none h' :=
  mm_of_G si_pn_M (Nat.le_of_ble_eq_true rfl) (t_M_sharesOf_0 _ _ _ _ _ _ _ hf)
/-! M rota (I)I -/
set_option maxRecDepth 100000 in
theorem dd_M_rota_0 : (decode prog_10_method_60_code 0 = .ok (.iload_n 1, 1)) ∧ (decode prog_10_method_60_code 1 = .ok (.ifCond .eq 37, 3)) ∧ (decode prog_10_method_60_code 4 = .ok (.iload_n 1, 1)) ∧ (decode prog_10_method_60_code 5 = .ok (.bipush 10, 2)) ∧ (decode prog_10_method_60_code 7 = .ok (.if_icmp .lt 29, 3)) ∧ (decode prog_10_method_60_code 10 = .ok (.aload_n 0, 1)) ∧ (decode prog_10_method_60_code 11 = .ok (.iload_n 1, 1)) ∧ (decode prog_10_method_60_code 12 = .ok (.bipush 10, 2)) ∧ (decode prog_10_method_60_code 14 = .ok (.isub, 1)) ∧ (decode prog_10_method_60_code 15 = .ok (.iconst 3, 1)) ∧ (decode prog_10_method_60_code 16 = .ok (.idiv, 1)) ∧ (decode prog_10_method_60_code 17 = .ok (.invokevirtual 210, 3)) ∧ (decode prog_10_method_60_code 20 = .ok (.ifCond .eq 16, 3)) ∧ (decode prog_10_method_60_code 23 = .ok (.aload_n 0, 1)) ∧ (decode prog_10_method_60_code 24 = .ok (.iload_n 1, 1)) ∧ (decode prog_10_method_60_code 25 = .ok (.bipush 10, 2)) ∧ (decode prog_10_method_60_code 27 = .ok (.isub, 1)) ∧ (decode prog_10_method_60_code 28 = .ok (.iconst 3, 1)) ∧ (decode prog_10_method_60_code 29 = .ok (.irem, 1)) ∧ (decode prog_10_method_60_code 30 = .ok (.invokevirtual 213, 3)) ∧ (decode prog_10_method_60_code 33 = .ok (.ifCond .ne 5, 3)) ∧ (decode prog_10_method_60_code 36 = .ok (.iconst (-1), 1)) ∧ (decode prog_10_method_60_code 37 = .ok (.ireturn, 1)) ∧ (decode prog_10_method_60_code 38 = .ok (.aload_n 0, 1)) := by
  have h : List.drop 0 prog_10_method_60_code.data.toList = 0x1b :: _ := rfl
  refine ⟨zq_k_n 27 h rfl (zq_o_27 _), ?_⟩
  replace h := zq_nx1 (q := 1) h rfl
  refine ⟨zq_k_s2 153 (fun z => .ifCond .eq z) 37 h rfl (zq_o_153 _) (by decide +kernel), ?_⟩
  replace h := zq_nx3 (q := 4) h rfl
  refine ⟨zq_k_n 27 h rfl (zq_o_27 _), ?_⟩
  replace h := zq_nx1 (q := 5) h rfl
  refine ⟨zq_k_s1 16 (fun z => .bipush z) 10 h rfl (zq_o_16 _) (by decide +kernel), ?_⟩
  replace h := zq_nx2 (q := 7) h rfl
  refine ⟨zq_k_s2 161 (fun z => .if_icmp .lt z) 29 h rfl (zq_o_161 _) (by decide +kernel), ?_⟩
  replace h := zq_nx3 (q := 10) h rfl
  refine ⟨zq_k_n 42 h rfl (zq_o_42 _), ?_⟩
  replace h := zq_nx1 (q := 11) h rfl
  refine ⟨zq_k_n 27 h rfl (zq_o_27 _), ?_⟩
  replace h := zq_nx1 (q := 12) h rfl
  refine ⟨zq_k_s1 16 (fun z => .bipush z) 10 h rfl (zq_o_16 _) (by decide +kernel), ?_⟩
  replace h := zq_nx2 (q := 14) h rfl
  refine ⟨zq_k_n 100 h rfl (zq_o_100 _), ?_⟩
  replace h := zq_nx1 (q := 15) h rfl
  refine ⟨zq_k_n 6 h rfl (zq_o_6 _), ?_⟩
  replace h := zq_nx1 (q := 16) h rfl
  refine ⟨zq_k_n 108 h rfl (zq_o_108 _), ?_⟩
  replace h := zq_nx1 (q := 17) h rfl
  refine ⟨zq_k_u2 182 (fun z => .invokevirtual z) 210 h rfl (zq_o_182 _) (by decide +kernel), ?_⟩
  replace h := zq_nx3 (q := 20) h rfl
  refine ⟨zq_k_s2 153 (fun z => .ifCond .eq z) 16 h rfl (zq_o_153 _) (by decide +kernel), ?_⟩
  replace h := zq_nx3 (q := 23) h rfl
  refine ⟨zq_k_n 42 h rfl (zq_o_42 _), ?_⟩
  replace h := zq_nx1 (q := 24) h rfl
  refine ⟨zq_k_n 27 h rfl (zq_o_27 _), ?_⟩
  replace h := zq_nx1 (q := 25) h rfl
  refine ⟨zq_k_s1 16 (fun z => .bipush z) 10 h rfl (zq_o_16 _) (by decide +kernel), ?_⟩
  replace h := zq_nx2 (q := 27) h rfl
  refine ⟨zq_k_n 100 h rfl (zq_o_100 _), ?_⟩
  replace h := zq_nx1 (q := 28) h rfl
  refine ⟨zq_k_n 6 h rfl (zq_o_6 _), ?_⟩
  replace h := zq_nx1 (q := 29) h rfl
  refine ⟨zq_k_n 112 h rfl (zq_o_112 _), ?_⟩
  replace h := zq_nx1 (q := 30) h rfl
  refine ⟨zq_k_u2 182 (fun z => .invokevirtual z) 213 h rfl (zq_o_182 _) (by decide +kernel), ?_⟩
  replace h := zq_nx3 (q := 33) h rfl
  refine ⟨zq_k_s2 154 (fun z => .ifCond .ne z) 5 h rfl (zq_o_154 _) (by decide +kernel), ?_⟩
  replace h := zq_nx3 (q := 36) h rfl
  refine ⟨zq_k_n 2 h rfl (zq_o_2 _), ?_⟩
  replace h := zq_nx1 (q := 37) h rfl
  refine ⟨zq_k_n 172 h rfl (zq_o_172 _), ?_⟩
  replace h := zq_nx1 (q := 38) h rfl
  exact zq_k_n 42 h rfl (zq_o_42 _)
set_option maxRecDepth 100000 in
theorem dd_M_rota_39 : (decode prog_10_method_60_code 39 = .ok (.aload_n 0, 1)) ∧ (decode prog_10_method_60_code 40 = .ok (.getfield 7, 3)) ∧ (decode prog_10_method_60_code 43 = .ok (.bipush 10, 2)) ∧ (decode prog_10_method_60_code 45 = .ok (.iaload, 1)) ∧ (decode prog_10_method_60_code 46 = .ok (.invokevirtual 260, 3)) ∧ (decode prog_10_method_60_code 49 = .ok (.aload_n 0, 1)) ∧ (decode prog_10_method_60_code 50 = .ok (.invokevirtual 263, 3)) ∧ (decode prog_10_method_60_code 53 = .ok (.istore_n 2, 1)) ∧ (decode prog_10_method_60_code 54 = .ok (.iload_n 2, 1)) ∧ (decode prog_10_method_60_code 55 = .ok (.ldc 246, 2)) ∧ (decode prog_10_method_60_code 57 = .ok (.if_icmp .eq 7, 3)) ∧ (decode prog_10_method_60_code 60 = .ok (.iload_n 1, 1)) ∧ (decode prog_10_method_60_code 61 = .ok (.ifCond .ne 16, 3)) ∧ (decode prog_10_method_60_code 64 = .ok (.iload_n 2, 1)) ∧ (decode prog_10_method_60_code 65 = .ok (.ldc 246, 2)) ∧ (decode prog_10_method_60_code 67 = .ok (.if_icmp .ne 8, 3)) ∧ (decode prog_10_method_60_code 70 = .ok (.bipush (-4), 2)) ∧ (decode prog_10_method_60_code 72 = .ok (.goto 4, 3)) ∧ (decode prog_10_method_60_code 75 = .ok (.iload_n 2, 1)) ∧ (decode prog_10_method_60_code 76 = .ok (.ireturn, 1)) ∧ (decode prog_10_method_60_code 77 = .ok (.aload_n 0, 1)) ∧ (decode prog_10_method_60_code 78 = .ok (.getfield 59, 3)) ∧ (decode prog_10_method_60_code 81 = .ok (.iconst 0, 1)) ∧ (decode prog_10_method_60_code 82 = .ok (.iaload, 1)) := by
  have h : List.drop 39 prog_10_method_60_code.data.toList = 0x2a :: _ := rfl
  refine ⟨zq_k_n 42 h rfl (zq_o_42 _), ?_⟩
  replace h := zq_nx1 (q := 40) h rfl
  refine ⟨zq_k_u2 180 (fun z => .getfield z) 7 h rfl (zq_o_180 _) (by decide +kernel), ?_⟩
  replace h := zq_nx3 (q := 43) h rfl
  refine ⟨zq_k_s1 16 (fun z => .bipush z) 10 h rfl (zq_o_16 _) (by decide +kernel), ?_⟩
  replace h := zq_nx2 (q := 45) h rfl
  refine ⟨zq_k_n 46 h rfl (zq_o_46 _), ?_⟩
  replace h := zq_nx1 (q := 46) h rfl
  refine ⟨zq_k_u2 182 (fun z => .invokevirtual z) 260 h rfl (zq_o_182 _) (by decide +kernel), ?_⟩
  replace h := zq_nx3 (q := 49) h rfl
  refine ⟨zq_k_n 42 h rfl (zq_o_42 _), ?_⟩
  replace h := zq_nx1 (q := 50) h rfl
  refine ⟨zq_k_u2 182 (fun z => .invokevirtual z) 263 h rfl (zq_o_182 _) (by decide +kernel), ?_⟩
  replace h := zq_nx3 (q := 53) h rfl
  refine ⟨zq_k_n 61 h rfl (zq_o_61 _), ?_⟩
  replace h := zq_nx1 (q := 54) h rfl
  refine ⟨zq_k_n 28 h rfl (zq_o_28 _), ?_⟩
  replace h := zq_nx1 (q := 55) h rfl
  refine ⟨zq_k_u1 18 (fun z => .ldc z) 246 h rfl (zq_o_18 _) (by decide +kernel), ?_⟩
  replace h := zq_nx2 (q := 57) h rfl
  refine ⟨zq_k_s2 159 (fun z => .if_icmp .eq z) 7 h rfl (zq_o_159 _) (by decide +kernel), ?_⟩
  replace h := zq_nx3 (q := 60) h rfl
  refine ⟨zq_k_n 27 h rfl (zq_o_27 _), ?_⟩
  replace h := zq_nx1 (q := 61) h rfl
  refine ⟨zq_k_s2 154 (fun z => .ifCond .ne z) 16 h rfl (zq_o_154 _) (by decide +kernel), ?_⟩
  replace h := zq_nx3 (q := 64) h rfl
  refine ⟨zq_k_n 28 h rfl (zq_o_28 _), ?_⟩
  replace h := zq_nx1 (q := 65) h rfl
  refine ⟨zq_k_u1 18 (fun z => .ldc z) 246 h rfl (zq_o_18 _) (by decide +kernel), ?_⟩
  replace h := zq_nx2 (q := 67) h rfl
  refine ⟨zq_k_s2 160 (fun z => .if_icmp .ne z) 8 h rfl (zq_o_160 _) (by decide +kernel), ?_⟩
  replace h := zq_nx3 (q := 70) h rfl
  refine ⟨zq_k_s1 16 (fun z => .bipush z) (-4) h rfl (zq_o_16 _) (by decide +kernel), ?_⟩
  replace h := zq_nx2 (q := 72) h rfl
  refine ⟨zq_k_s2 167 (fun z => .goto z) 4 h rfl (zq_o_167 _) (by decide +kernel), ?_⟩
  replace h := zq_nx3 (q := 75) h rfl
  refine ⟨zq_k_n 28 h rfl (zq_o_28 _), ?_⟩
  replace h := zq_nx1 (q := 76) h rfl
  refine ⟨zq_k_n 172 h rfl (zq_o_172 _), ?_⟩
  replace h := zq_nx1 (q := 77) h rfl
  refine ⟨zq_k_n 42 h rfl (zq_o_42 _), ?_⟩
  replace h := zq_nx1 (q := 78) h rfl
  refine ⟨zq_k_u2 180 (fun z => .getfield z) 59 h rfl (zq_o_180 _) (by decide +kernel), ?_⟩
  replace h := zq_nx3 (q := 81) h rfl
  refine ⟨zq_k_n 3 h rfl (zq_o_3 _), ?_⟩
  replace h := zq_nx1 (q := 82) h rfl
  exact zq_k_n 46 h rfl (zq_o_46 _)
set_option maxRecDepth 100000 in
theorem dd_M_rota_83 : (decode prog_10_method_60_code 83 = .ok (.istore_n 3, 1)) ∧ (decode prog_10_method_60_code 84 = .ok (.aload_n 0, 1)) ∧ (decode prog_10_method_60_code 85 = .ok (.getfield 59, 3)) ∧ (decode prog_10_method_60_code 88 = .ok (.iconst 1, 1)) ∧ (decode prog_10_method_60_code 89 = .ok (.iaload, 1)) ∧ (decode prog_10_method_60_code 90 = .ok (.istore 4, 2)) ∧ (decode prog_10_method_60_code 92 = .ok (.aload_n 0, 1)) ∧ (decode prog_10_method_60_code 93 = .ok (.getfield 59, 3)) ∧ (decode prog_10_method_60_code 96 = .ok (.iconst 2, 1)) ∧ (decode prog_10_method_60_code 97 = .ok (.iaload, 1)) ∧ (decode prog_10_method_60_code 98 = .ok (.istore 5, 2)) ∧ (decode prog_10_method_60_code 100 = .ok (.iconst 0, 1)) ∧ (decode prog_10_method_60_code 101 = .ok (.istore 6, 2)) ∧ (decode prog_10_method_60_code 103 = .ok (.iload 6, 2)) ∧ (decode prog_10_method_60_code 105 = .ok (.iload_n 1, 1)) ∧ (decode prog_10_method_60_code 106 = .ok (.bipush 10, 2)) ∧ (decode prog_10_method_60_code 108 = .ok (.isub, 1)) ∧ (decode prog_10_method_60_code 109 = .ok (.iconst 3, 1)) ∧ (decode prog_10_method_60_code 110 = .ok (.idiv, 1)) ∧ (decode prog_10_method_60_code 111 = .ok (.if_icmp .gt 51, 3)) ∧ (decode prog_10_method_60_code 114 = .ok (.aload_n 0, 1)) ∧ (decode prog_10_method_60_code 115 = .ok (.iload 6, 2)) ∧ (decode prog_10_method_60_code 117 = .ok (.iload_n 3, 1)) ∧ (decode prog_10_method_60_code 118 = .ok (.iload 4, 2)) := by
  have h : List.drop 83 prog_10_method_60_code.data.toList = 0x3e :: _ := rfl
  refine ⟨zq_k_n 62 h rfl (zq_o_62 _), ?_⟩
  replace h := zq_nx1 (q := 84) h rfl
  refine ⟨zq_k_n 42 h rfl (zq_o_42 _), ?_⟩
  replace h := zq_nx1 (q := 85) h rfl
  refine ⟨zq_k_u2 180 (fun z => .getfield z) 59 h rfl (zq_o_180 _) (by decide +kernel), ?_⟩
  replace h := zq_nx3 (q := 88) h rfl
  refine ⟨zq_k_n 4 h rfl (zq_o_4 _), ?_⟩
  replace h := zq_nx1 (q := 89) h rfl
  refine ⟨zq_k_n 46 h rfl (zq_o_46 _), ?_⟩
  replace h := zq_nx1 (q := 90) h rfl
  refine ⟨zq_k_u1 54 (fun z => .istore z) 4 h rfl (zq_o_54 _) (by decide +kernel), ?_⟩
  replace h := zq_nx2 (q := 92) h rfl
  refine ⟨zq_k_n 42 h rfl (zq_o_42 _), ?_⟩
  replace h := zq_nx1 (q := 93) h rfl
  refine ⟨zq_k_u2 180 (fun z => .getfield z) 59 h rfl (zq_o_180 _) (by decide +kernel), ?_⟩
  replace h := zq_nx3 (q := 96) h rfl
  refine ⟨zq_k_n 5 h rfl (zq_o_5 _), ?_⟩
  replace h := zq_nx1 (q := 97) h rfl
  refine ⟨zq_k_n 46 h rfl (zq_o_46 _), ?_⟩
  replace h := zq_nx1 (q := 98) h rfl
  refine ⟨zq_k_u1 54 (fun z => .istore z) 5 h rfl (zq_o_54 _) (by decide +kernel), ?_⟩
  replace h := zq_nx2 (q := 100) h rfl
  refine ⟨zq_k_n 3 h rfl (zq_o_3 _), ?_⟩
  replace h := zq_nx1 (q := 101) h rfl
  refine ⟨zq_k_u1 54 (fun z => .istore z) 6 h rfl (zq_o_54 _) (by decide +kernel), ?_⟩
  replace h := zq_nx2 (q := 103) h rfl
  refine ⟨zq_k_u1 21 (fun z => .iload z) 6 h rfl (zq_o_21 _) (by decide +kernel), ?_⟩
  replace h := zq_nx2 (q := 105) h rfl
  refine ⟨zq_k_n 27 h rfl (zq_o_27 _), ?_⟩
  replace h := zq_nx1 (q := 106) h rfl
  refine ⟨zq_k_s1 16 (fun z => .bipush z) 10 h rfl (zq_o_16 _) (by decide +kernel), ?_⟩
  replace h := zq_nx2 (q := 108) h rfl
  refine ⟨zq_k_n 100 h rfl (zq_o_100 _), ?_⟩
  replace h := zq_nx1 (q := 109) h rfl
  refine ⟨zq_k_n 6 h rfl (zq_o_6 _), ?_⟩
  replace h := zq_nx1 (q := 110) h rfl
  refine ⟨zq_k_n 108 h rfl (zq_o_108 _), ?_⟩
  replace h := zq_nx1 (q := 111) h rfl
  refine ⟨zq_k_s2 163 (fun z => .if_icmp .gt z) 51 h rfl (zq_o_163 _) (by decide +kernel), ?_⟩
  replace h := zq_nx3 (q := 114) h rfl
  refine ⟨zq_k_n 42 h rfl (zq_o_42 _), ?_⟩
  replace h := zq_nx1 (q := 115) h rfl
  refine ⟨zq_k_u1 21 (fun z => .iload z) 6 h rfl (zq_o_21 _) (by decide +kernel), ?_⟩
  replace h := zq_nx2 (q := 117) h rfl
  refine ⟨zq_k_n 29 h rfl (zq_o_29 _), ?_⟩
  replace h := zq_nx1 (q := 118) h rfl
  exact zq_k_u1 21 (fun z => .iload z) 4 h rfl (zq_o_21 _) (by decide +kernel)
set_option maxRecDepth 100000 in
theorem dd_M_rota_120 : (decode prog_10_method_60_code 120 = .ok (.iload 5, 2)) ∧ (decode prog_10_method_60_code 122 = .ok (.invokevirtual 266, 3)) ∧ (decode prog_10_method_60_code 125 = .ok (.iload_n 3, 1)) ∧ (decode prog_10_method_60_code 126 = .ok (.aload_n 0, 1)) ∧ (decode prog_10_method_60_code 127 = .ok (.getfield 62, 3)) ∧ (decode prog_10_method_60_code 130 = .ok (.iconst 0, 1)) ∧ (decode prog_10_method_60_code 131 = .ok (.iaload, 1)) ∧ (decode prog_10_method_60_code 132 = .ok (.isub, 1)) ∧ (decode prog_10_method_60_code 133 = .ok (.istore_n 3, 1)) ∧ (decode prog_10_method_60_code 134 = .ok (.iload 4, 2)) ∧ (decode prog_10_method_60_code 136 = .ok (.aload_n 0, 1)) ∧ (decode prog_10_method_60_code 137 = .ok (.getfield 62, 3)) ∧ (decode prog_10_method_60_code 140 = .ok (.iconst 1, 1)) ∧ (decode prog_10_method_60_code 141 = .ok (.iaload, 1)) ∧ (decode prog_10_method_60_code 142 = .ok (.isub, 1)) ∧ (decode prog_10_method_60_code 143 = .ok (.istore 4, 2)) ∧ (decode prog_10_method_60_code 145 = .ok (.iload 5, 2)) ∧ (decode prog_10_method_60_code 147 = .ok (.aload_n 0, 1)) ∧ (decode prog_10_method_60_code 148 = .ok (.getfield 62, 3)) ∧ (decode prog_10_method_60_code 151 = .ok (.iconst 2, 1)) ∧ (decode prog_10_method_60_code 152 = .ok (.iaload, 1)) ∧ (decode prog_10_method_60_code 153 = .ok (.isub, 1)) ∧ (decode prog_10_method_60_code 154 = .ok (.istore 5, 2)) ∧ (decode prog_10_method_60_code 156 = .ok (.iinc 6 1, 3)) := by
  have h : List.drop 120 prog_10_method_60_code.data.toList = 0x15 :: _ := rfl
  refine ⟨zq_k_u1 21 (fun z => .iload z) 5 h rfl (zq_o_21 _) (by decide +kernel), ?_⟩
  replace h := zq_nx2 (q := 122) h rfl
  refine ⟨zq_k_u2 182 (fun z => .invokevirtual z) 266 h rfl (zq_o_182 _) (by decide +kernel), ?_⟩
  replace h := zq_nx3 (q := 125) h rfl
  refine ⟨zq_k_n 29 h rfl (zq_o_29 _), ?_⟩
  replace h := zq_nx1 (q := 126) h rfl
  refine ⟨zq_k_n 42 h rfl (zq_o_42 _), ?_⟩
  replace h := zq_nx1 (q := 127) h rfl
  refine ⟨zq_k_u2 180 (fun z => .getfield z) 62 h rfl (zq_o_180 _) (by decide +kernel), ?_⟩
  replace h := zq_nx3 (q := 130) h rfl
  refine ⟨zq_k_n 3 h rfl (zq_o_3 _), ?_⟩
  replace h := zq_nx1 (q := 131) h rfl
  refine ⟨zq_k_n 46 h rfl (zq_o_46 _), ?_⟩
  replace h := zq_nx1 (q := 132) h rfl
  refine ⟨zq_k_n 100 h rfl (zq_o_100 _), ?_⟩
  replace h := zq_nx1 (q := 133) h rfl
  refine ⟨zq_k_n 62 h rfl (zq_o_62 _), ?_⟩
  replace h := zq_nx1 (q := 134) h rfl
  refine ⟨zq_k_u1 21 (fun z => .iload z) 4 h rfl (zq_o_21 _) (by decide +kernel), ?_⟩
  replace h := zq_nx2 (q := 136) h rfl
  refine ⟨zq_k_n 42 h rfl (zq_o_42 _), ?_⟩
  replace h := zq_nx1 (q := 137) h rfl
  refine ⟨zq_k_u2 180 (fun z => .getfield z) 62 h rfl (zq_o_180 _) (by decide +kernel), ?_⟩
  replace h := zq_nx3 (q := 140) h rfl
  refine ⟨zq_k_n 4 h rfl (zq_o_4 _), ?_⟩
  replace h := zq_nx1 (q := 141) h rfl
  refine ⟨zq_k_n 46 h rfl (zq_o_46 _), ?_⟩
  replace h := zq_nx1 (q := 142) h rfl
  refine ⟨zq_k_n 100 h rfl (zq_o_100 _), ?_⟩
  replace h := zq_nx1 (q := 143) h rfl
  refine ⟨zq_k_u1 54 (fun z => .istore z) 4 h rfl (zq_o_54 _) (by decide +kernel), ?_⟩
  replace h := zq_nx2 (q := 145) h rfl
  refine ⟨zq_k_u1 21 (fun z => .iload z) 5 h rfl (zq_o_21 _) (by decide +kernel), ?_⟩
  replace h := zq_nx2 (q := 147) h rfl
  refine ⟨zq_k_n 42 h rfl (zq_o_42 _), ?_⟩
  replace h := zq_nx1 (q := 148) h rfl
  refine ⟨zq_k_u2 180 (fun z => .getfield z) 62 h rfl (zq_o_180 _) (by decide +kernel), ?_⟩
  replace h := zq_nx3 (q := 151) h rfl
  refine ⟨zq_k_n 5 h rfl (zq_o_5 _), ?_⟩
  replace h := zq_nx1 (q := 152) h rfl
  refine ⟨zq_k_n 46 h rfl (zq_o_46 _), ?_⟩
  replace h := zq_nx1 (q := 153) h rfl
  refine ⟨zq_k_n 100 h rfl (zq_o_100 _), ?_⟩
  replace h := zq_nx1 (q := 154) h rfl
  refine ⟨zq_k_u1 54 (fun z => .istore z) 5 h rfl (zq_o_54 _) (by decide +kernel), ?_⟩
  replace h := zq_nx2 (q := 156) h rfl
  exact zq_k_iinc 6 1 h rfl (zq_o_132 _) (by decide +kernel) (by decide +kernel)
set_option maxRecDepth 100000 in
theorem dd_M_rota_159 : (decode prog_10_method_60_code 159 = .ok (.goto (-56), 3)) ∧ (decode prog_10_method_60_code 162 = .ok (.aload_n 0, 1)) ∧ (decode prog_10_method_60_code 163 = .ok (.getfield 62, 3)) ∧ (decode prog_10_method_60_code 166 = .ok (.iload_n 1, 1)) ∧ (decode prog_10_method_60_code 167 = .ok (.bipush 10, 2)) ∧ (decode prog_10_method_60_code 169 = .ok (.isub, 1)) ∧ (decode prog_10_method_60_code 170 = .ok (.iconst 3, 1)) ∧ (decode prog_10_method_60_code 171 = .ok (.irem, 1)) ∧ (decode prog_10_method_60_code 172 = .ok (.iaload, 1)) ∧ (decode prog_10_method_60_code 173 = .ok (.ireturn, 1)) := by
  have h : List.drop 159 prog_10_method_60_code.data.toList = 0xa7 :: _ := rfl
  refine ⟨zq_k_s2 167 (fun z => .goto z) (-56) h rfl (zq_o_167 _) (by decide +kernel), ?_⟩
  replace h := zq_nx3 (q := 162) h rfl
  refine ⟨zq_k_n 42 h rfl (zq_o_42 _), ?_⟩
  replace h := zq_nx1 (q := 163) h rfl
  refine ⟨zq_k_u2 180 (fun z => .getfield z) 62 h rfl (zq_o_180 _) (by decide +kernel), ?_⟩
  replace h := zq_nx3 (q := 166) h rfl
  refine ⟨zq_k_n 27 h rfl (zq_o_27 _), ?_⟩
  replace h := zq_nx1 (q := 167) h rfl
  refine ⟨zq_k_s1 16 (fun z => .bipush z) 10 h rfl (zq_o_16 _) (by decide +kernel), ?_⟩
  replace h := zq_nx2 (q := 169) h rfl
  refine ⟨zq_k_n 100 h rfl (zq_o_100 _), ?_⟩
  replace h := zq_nx1 (q := 170) h rfl
  refine ⟨zq_k_n 6 h rfl (zq_o_6 _), ?_⟩
  replace h := zq_nx1 (q := 171) h rfl
  refine ⟨zq_k_n 112 h rfl (zq_o_112 _), ?_⟩
  replace h := zq_nx1 (q := 172) h rfl
  refine ⟨zq_k_n 46 h rfl (zq_o_46 _), ?_⟩
  replace h := zq_nx1 (q := 173) h rfl
  exact zq_k_n 172 h rfl (zq_o_172 _)
def f_M_rota_103b (rec103 : Nat → Int32 → Int32 → Int32 → Int32 → Int32 → mH → Option (Int32 × mH)) (b0 : Nat) (b1 : Int32) (b3 : Int32) (b4 : Int32) (b5 : Int32) (b6 : Int32) (h : mH) : Option (Int32 × mH) :=
  if ((b1 - (10 : Int32)) / (3 : Int32)) < b6 then
    bd1 (gR h b0 8 30) fun x43 =>
    bd1 (aI h 0 x43 ((b1 - (10 : Int32)) - (b1 - (10 : Int32)) / (3 : Int32) * (3 : Int32))) fun x45 =>
    some (x45, h)
  else
    bd1 (kC h b0 8) fun _ =>
    bd1 (f_M_sharesOf b0 b6 b3 b4 b5 h) fun h49 =>
    bd1 (gR h49 b0 8 30) fun x51 =>
    bd1 (aI h49 0 x51 (0 : Int32)) fun x53 =>
    bd1 (gR h49 b0 8 30) fun x55 =>
    bd1 (aI h49 0 x55 (1 : Int32)) fun x57 =>
    bd1 (gR h49 b0 8 30) fun x59 =>
    bd1 (aI h49 0 x59 (2 : Int32)) fun x61 =>
    rec103 b0 b1 (b3 - x53) (b4 - x57) (b5 - x61) (b6 + (1 : Int32)) h49
set_option maxRecDepth 20000 in
theorem t_M_rota_103b {sc : Nat × (Nat → Int32)} (rec103 : Nat → Int32 → Int32 → Int32 → Int32 → Int32 → mH → Option (Int32 × mH)) (hrec103 : ∀ (b0 : Nat) (b1 : Int32) (b3 : Int32) (b4 : Int32) (b5 : Int32) (b6 : Int32) (h : mH) (r : Int32) (h' : mH), rec103 b0 b1 b3 b4 b5 b6 h = some (r, h') → G sc y_M_rota prog_10_method_60_code 7 (some .int) 6 150 103 [(0, .ref b0), (1, .int b1), (3, .int b3), (4, .int b4), (5, .int b5), (6, .int b6)] [] h (some (.int r)) h') (b0 : Nat) (b1 : Int32) (b3 : Int32) (b4 : Int32) (b5 : Int32) (b6 : Int32) (h : mH) (r : Int32) (h' : mH) (hf : f_M_rota_103b rec103 b0 b1 b3 b4 b5 b6 h = some (r, h')) : G sc y_M_rota prog_10_method_60_code 7 (some .int) 6 150 103 [(0, .ref b0), (1, .int b1), (3, .int b3), (4, .int b4), (5, .int b5), (6, .int b6)] [] h (some (.int r)) h' := by
  unfold f_M_rota_103b at hf
  refine g_iload (pc := 103) 5 dd_M_rota_83.2.2.2.2.2.2.2.2.2.2.2.2.2.1 rfl ?_
  refine g_iload_n (pc := 105) 1 dd_M_rota_83.2.2.2.2.2.2.2.2.2.2.2.2.2.2.1 rfl rfl ?_
  refine g_bipush (pc := 106) (10 : Int32) dd_M_rota_83.2.2.2.2.2.2.2.2.2.2.2.2.2.2.2.1 (by decide) ?_
  refine g_isub (pc := 108) dd_M_rota_83.2.2.2.2.2.2.2.2.2.2.2.2.2.2.2.2.1 ?_
  refine g_iconst (pc := 109) (3 : Int32) dd_M_rota_83.2.2.2.2.2.2.2.2.2.2.2.2.2.2.2.2.2.1 (by decide) ?_
  refine g_idiv (pc := 110) dd_M_rota_83.2.2.2.2.2.2.2.2.2.2.2.2.2.2.2.2.2.2.1 (by decide) ?_
  refine g_icmpgt (pc := 111) 162 dd_M_rota_83.2.2.2.2.2.2.2.2.2.2.2.2.2.2.2.2.2.2.2.1 (by decide) (fun c63 => ?_) (fun c63 => ?_)
  · replace hf := (if_pos c63).symm.trans hf
    refine g_aload_n (pc := 162) 0 dd_M_rota_159.2.1 rfl rfl ?_
    obtain ⟨x43, e44, hf⟩ := bd1_e hf
    refine g_get (pc := 163) (ci := 8) (kk := 30) dd_M_rota_159.2.2.1 rfl in_M (by decide) wd_968 (gR_spec e44) ?_
    refine g_iload_n (pc := 166) 1 dd_M_rota_159.2.2.2.1 rfl rfl ?_
    refine g_bipush (pc := 167) (10 : Int32) dd_M_rota_159.2.2.2.2.1 (by decide) ?_
    refine g_isub (pc := 169) dd_M_rota_159.2.2.2.2.2.1 ?_
    refine g_iconst (pc := 170) (3 : Int32) dd_M_rota_159.2.2.2.2.2.2.1 (by decide) ?_
    refine g_irem (pc := 171) dd_M_rota_159.2.2.2.2.2.2.2.1 (by decide) ?_
    obtain ⟨x45, e46, hf⟩ := bd1_e hf
    refine g_iald (pc := 172) dd_M_rota_159.2.2.2.2.2.2.2.2.1 e46 ?_
    obtain ⟨rfl, rfl⟩ := ret2 hf
    exact g_iret (pc := 173) rfl dd_M_rota_159.2.2.2.2.2.2.2.2.2
  · replace hf := (if_neg c63).symm.trans hf
    refine g_aload_n (pc := 114) 0 dd_M_rota_83.2.2.2.2.2.2.2.2.2.2.2.2.2.2.2.2.2.2.2.2.1 rfl rfl ?_
    refine g_iload (pc := 115) 5 dd_M_rota_83.2.2.2.2.2.2.2.2.2.2.2.2.2.2.2.2.2.2.2.2.2.1 rfl ?_
    refine g_iload_n (pc := 117) 2 dd_M_rota_83.2.2.2.2.2.2.2.2.2.2.2.2.2.2.2.2.2.2.2.2.2.2.1 rfl rfl ?_
    refine g_iload (pc := 118) 3 dd_M_rota_83.2.2.2.2.2.2.2.2.2.2.2.2.2.2.2.2.2.2.2.2.2.2.2 rfl ?_
    refine g_iload (pc := 120) 4 dd_M_rota_120.1 rfl ?_
    obtain ⟨u48, e47, hf⟩ := bd1_e hf
    obtain ⟨h49, e50, hf⟩ := bd1_e hf
    refine g_callV (pc := 122) (ci := 8) [.int b6, .int b3, .int b4, .int b5] (site_of si_M_sharesOf (by decide) (by decide)) wd_1282 wd_1284 wp_62 dd_M_rota_120.2.1 rfl e47 (Nat.le_of_ble_eq_true rfl) (fun z => absurd z si_na_M_sharesOf) (fun z => absurd z si_na_M_sharesOf) (fun z => absurd z si_na_M_sharesOf) (c_M_sharesOf e50) rfl ?_
    refine g_st [] rfl ?_
    refine g_iload_n (pc := 125) 2 dd_M_rota_120.2.2.1 rfl rfl ?_
    refine g_aload_n (pc := 126) 0 dd_M_rota_120.2.2.2.1 rfl rfl ?_
    obtain ⟨x51, e52, hf⟩ := bd1_e hf
    refine g_get (pc := 127) (ci := 8) (kk := 30) dd_M_rota_120.2.2.2.2.1 rfl in_M (by decide) wd_968 (gR_spec e52) ?_
    refine g_iconst (pc := 130) (0 : Int32) dd_M_rota_120.2.2.2.2.2.1 (by decide) ?_
    obtain ⟨x53, e54, hf⟩ := bd1_e hf
    refine g_iald (pc := 131) dd_M_rota_120.2.2.2.2.2.2.1 e54 ?_
    refine g_isub (pc := 132) dd_M_rota_120.2.2.2.2.2.2.2.1 ?_
    refine g_istore_n (pc := 133) [(3, .int (b3 - x53)), (0, .ref b0), (1, .int b1), (4, .int b4), (5, .int b5), (6, .int b6)] dd_M_rota_120.2.2.2.2.2.2.2.2.1 rfl (Nat.le_of_ble_eq_true rfl) rfl ?_
    refine g_iload (pc := 134) 3 dd_M_rota_120.2.2.2.2.2.2.2.2.2.1 rfl ?_
    refine g_aload_n (pc := 136) 1 dd_M_rota_120.2.2.2.2.2.2.2.2.2.2.1 rfl rfl ?_
    obtain ⟨x55, e56, hf⟩ := bd1_e hf
    refine g_get (pc := 137) (ci := 8) (kk := 30) dd_M_rota_120.2.2.2.2.2.2.2.2.2.2.2.1 rfl in_M (by decide) wd_968 (gR_spec e56) ?_
    refine g_iconst (pc := 140) (1 : Int32) dd_M_rota_120.2.2.2.2.2.2.2.2.2.2.2.2.1 (by decide) ?_
    obtain ⟨x57, e58, hf⟩ := bd1_e hf
    refine g_iald (pc := 141) dd_M_rota_120.2.2.2.2.2.2.2.2.2.2.2.2.2.1 e58 ?_
    refine g_isub (pc := 142) dd_M_rota_120.2.2.2.2.2.2.2.2.2.2.2.2.2.2.1 ?_
    refine g_istore (pc := 143) [(4, .int (b4 - x57)), (3, .int (b3 - x53)), (0, .ref b0), (1, .int b1), (5, .int b5), (6, .int b6)] dd_M_rota_120.2.2.2.2.2.2.2.2.2.2.2.2.2.2.2.1 (Nat.le_of_ble_eq_true rfl) rfl ?_
    refine g_iload (pc := 145) 4 dd_M_rota_120.2.2.2.2.2.2.2.2.2.2.2.2.2.2.2.2.1 rfl ?_
    refine g_aload_n (pc := 147) 2 dd_M_rota_120.2.2.2.2.2.2.2.2.2.2.2.2.2.2.2.2.2.1 rfl rfl ?_
    obtain ⟨x59, e60, hf⟩ := bd1_e hf
    refine g_get (pc := 148) (ci := 8) (kk := 30) dd_M_rota_120.2.2.2.2.2.2.2.2.2.2.2.2.2.2.2.2.2.2.1 rfl in_M (by decide) wd_968 (gR_spec e60) ?_
    refine g_iconst (pc := 151) (2 : Int32) dd_M_rota_120.2.2.2.2.2.2.2.2.2.2.2.2.2.2.2.2.2.2.2.1 (by decide) ?_
    obtain ⟨x61, e62, hf⟩ := bd1_e hf
    refine g_iald (pc := 152) dd_M_rota_120.2.2.2.2.2.2.2.2.2.2.2.2.2.2.2.2.2.2.2.2.1 e62 ?_
    refine g_isub (pc := 153) dd_M_rota_120.2.2.2.2.2.2.2.2.2.2.2.2.2.2.2.2.2.2.2.2.2.1 ?_
    refine g_istore (pc := 154) [(5, .int (b5 - x61)), (4, .int (b4 - x57)), (3, .int (b3 - x53)), (0, .ref b0), (1, .int b1), (6, .int b6)] dd_M_rota_120.2.2.2.2.2.2.2.2.2.2.2.2.2.2.2.2.2.2.2.2.2.2.1 (Nat.le_of_ble_eq_true rfl) rfl ?_
    refine g_iinc (pc := 156) 5 (b6 + (1 : Int32)) [(6, .int (b6 + (1 : Int32))), (5, .int (b5 - x61)), (4, .int (b4 - x57)), (3, .int (b3 - x53)), (0, .ref b0), (1, .int b1)] dd_M_rota_120.2.2.2.2.2.2.2.2.2.2.2.2.2.2.2.2.2.2.2.2.2.2.2 rfl rfl (Nat.le_of_ble_eq_true rfl) rfl ?_
    refine g_goto (pc := 159) 103 dd_M_rota_159.1 (by decide) ?_
    refine g_lv [4, 5, 3, 2, 1, 0] rfl ?_
    exact hrec103 _ _ _ _ _ _ _ _ _  hf
def f_M_rota_103  : Nat → Nat → Int32 → Int32 → Int32 → Int32 → Int32 → mH → Option (Int32 × mH)
  | 0 => fun _ _ _ _ _ _ _ => none
  | n + 1 => f_M_rota_103b  (f_M_rota_103  n)
theorem t_M_rota_103 {sc : Nat × (Nat → Int32)}  : ∀ (n : Nat) (b0 : Nat) (b1 : Int32) (b3 : Int32) (b4 : Int32) (b5 : Int32) (b6 : Int32) (h : mH) (r : Int32) (h' : mH) (hf : f_M_rota_103  n b0 b1 b3 b4 b5 b6 h = some (r, h')), G sc y_M_rota prog_10_method_60_code 7 (some .int) 6 150 103 [(0, .ref b0), (1, .int b1), (3, .int b3), (4, .int b4), (5, .int b5), (6, .int b6)] [] h (some (.int r)) h'
  | 0, _, _, _, _, _, _, _, _, _, hf => by cases hf
  | n + 1, _, _, _, _, _, _, _, _, _, hf => t_M_rota_103b  (f_M_rota_103  n) (t_M_rota_103  n) _ _ _ _ _ _ _ _ _ hf
def f_M_rota_64  (b2 : Int32) (h : mH) : Option (Int32 × mH) :=
  if b2 = (1000000 : Int32) then
    some (((-4) : Int32), h)
  else
    some (b2, h)
set_option maxRecDepth 20000 in
theorem t_M_rota_64 {sc : Nat × (Nat → Int32)}  (b2 : Int32) (h : mH) (r : Int32) (h' : mH) (hf : f_M_rota_64  b2 h = some (r, h')) : G sc y_M_rota prog_10_method_60_code 7 (some .int) 6 150 64 [(2, .int b2)] [] h (some (.int r)) h' := by
  unfold f_M_rota_64 at hf
  refine g_iload_n (pc := 64) 0 dd_M_rota_39.2.2.2.2.2.2.2.2.2.2.2.2.2.1 rfl rfl ?_
  refine g_ldc (pc := 65) (1000000 : Int32) dd_M_rota_39.2.2.2.2.2.2.2.2.2.2.2.2.2.2.1 wd_1272 ?_
  refine g_icmpne (pc := 67) 75 dd_M_rota_39.2.2.2.2.2.2.2.2.2.2.2.2.2.2.2.1 (by decide) (fun c42 => ?_) (fun c42 => ?_)
  · replace hf := (if_neg c42).symm.trans hf
    refine g_iload_n (pc := 75) 0 dd_M_rota_39.2.2.2.2.2.2.2.2.2.2.2.2.2.2.2.2.2.2.1 rfl rfl ?_
    obtain ⟨rfl, rfl⟩ := ret2 hf
    exact g_iret (pc := 76) rfl dd_M_rota_39.2.2.2.2.2.2.2.2.2.2.2.2.2.2.2.2.2.2.2.1
  · replace hf := (if_pos c42).symm.trans hf
    refine g_bipush (pc := 70) ((-4) : Int32) dd_M_rota_39.2.2.2.2.2.2.2.2.2.2.2.2.2.2.2.2.1 (by decide) ?_
    refine g_goto (pc := 72) 76 dd_M_rota_39.2.2.2.2.2.2.2.2.2.2.2.2.2.2.2.2.2.1 (by decide) ?_
    obtain ⟨rfl, rfl⟩ := ret2 hf
    exact g_iret (pc := 76) rfl dd_M_rota_39.2.2.2.2.2.2.2.2.2.2.2.2.2.2.2.2.2.2.2.1
def f_M_rota_38  (b0 : Nat) (b1 : Int32) (h : mH) : Option (Int32 × mH) :=
  bd1 (gR h b0 8 0) fun x15 =>
  bd1 (aI h 0 x15 (10 : Int32)) fun x17 =>
  bd1 (kC h b0 8) fun _ =>
  bd1 (f_M_startsRota b0 x17 h) fun h21 =>
  bd1 (kC h21 b0 8) fun _ =>
  bd2 (f_M_findRota b0 h21) fun x27 h25 =>
  if x27 = (1000000 : Int32) then
    f_M_rota_64  x27 h25
  else
    if b1 = 0 then
      f_M_rota_64  x27 h25
    else
      bd1 (gR h25 b0 8 29) fun x28 =>
      bd1 (aI h25 0 x28 (0 : Int32)) fun x30 =>
      bd1 (gR h25 b0 8 29) fun x32 =>
      bd1 (aI h25 0 x32 (1 : Int32)) fun x34 =>
      bd1 (gR h25 b0 8 29) fun x36 =>
      bd1 (aI h25 0 x36 (2 : Int32)) fun x38 =>
      f_M_rota_103  FU b0 b1 x30 x34 x38 (0 : Int32) h25
set_option maxRecDepth 20000 in
theorem t_M_rota_38 {sc : Nat × (Nat → Int32)}  (b0 : Nat) (b1 : Int32) (h : mH) (r : Int32) (h' : mH) (hf : f_M_rota_38  b0 b1 h = some (r, h')) : G sc y_M_rota prog_10_method_60_code 7 (some .int) 6 150 38 [(0, .ref b0), (1, .int b1)] [] h (some (.int r)) h' := by
  unfold f_M_rota_38 at hf
  refine g_aload_n (pc := 38) 0 dd_M_rota_0.2.2.2.2.2.2.2.2.2.2.2.2.2.2.2.2.2.2.2.2.2.2.2 rfl rfl ?_
  refine g_aload_n (pc := 39) 0 dd_M_rota_39.1 rfl rfl ?_
  obtain ⟨x15, e16, hf⟩ := bd1_e hf
  refine g_get (pc := 40) (ci := 8) (kk := 0) dd_M_rota_39.2.1 rfl in_M (by decide) wd_938 (gR_spec e16) ?_
  refine g_bipush (pc := 43) (10 : Int32) dd_M_rota_39.2.2.1 (by decide) ?_
  obtain ⟨x17, e18, hf⟩ := bd1_e hf
  refine g_iald (pc := 45) dd_M_rota_39.2.2.2.1 e18 ?_
  obtain ⟨u20, e19, hf⟩ := bd1_e hf
  obtain ⟨h21, e22, hf⟩ := bd1_e hf
  refine g_callV (pc := 46) (ci := 8) [.int x17] (site_of si_M_startsRota (by decide) (by decide)) wd_1257 wd_1259 wp_57 dd_M_rota_39.2.2.2.2.1 rfl e19 (Nat.le_of_ble_eq_true rfl) (fun z => absurd z si_na_M_startsRota) (fun z => absurd z si_na_M_startsRota) (fun z => absurd z si_na_M_startsRota) (c_M_startsRota e22) rfl ?_
  refine g_st [] rfl ?_
  refine g_aload_n (pc := 49) 0 dd_M_rota_39.2.2.2.2.2.1 rfl rfl ?_
  obtain ⟨u24, e23, hf⟩ := bd1_e hf
  obtain ⟨x27, h25, e26, hf⟩ := bd2_e hf
  refine g_callV (pc := 50) (ci := 8) [] (site_of si_M_findRota (by decide) (by decide)) wd_1261 wd_1263 wp_58 dd_M_rota_39.2.2.2.2.2.2.1 rfl e23 (Nat.le_of_ble_eq_true rfl) (fun z => absurd z si_na_M_findRota) (fun z => absurd z si_na_M_findRota) (fun z => absurd z si_na_M_findRota) (c_M_findRota e26) rfl ?_
  refine g_st [.int x27] rfl ?_
  refine g_istore_n (pc := 53) [(2, .int x27), (0, .ref b0), (1, .int b1)] dd_M_rota_39.2.2.2.2.2.2.2.1 rfl (Nat.le_of_ble_eq_true rfl) rfl ?_
  refine g_iload_n (pc := 54) 0 dd_M_rota_39.2.2.2.2.2.2.2.2.1 rfl rfl ?_
  refine g_ldc (pc := 55) (1000000 : Int32) dd_M_rota_39.2.2.2.2.2.2.2.2.2.1 wd_1272 ?_
  refine g_icmpeq (pc := 57) 64 dd_M_rota_39.2.2.2.2.2.2.2.2.2.2.1 (by decide) (fun c41 => ?_) (fun c41 => ?_)
  · replace hf := (if_pos c41).symm.trans hf
    refine g_lv [0] rfl ?_
    exact t_M_rota_64  _ _ _ _  hf
  · replace hf := (if_neg c41).symm.trans hf
    refine g_iload_n (pc := 60) 2 dd_M_rota_39.2.2.2.2.2.2.2.2.2.2.2.1 rfl rfl ?_
    refine g_ifne (pc := 61) 77 dd_M_rota_39.2.2.2.2.2.2.2.2.2.2.2.2.1 (by decide) (fun c40 => ?_) (fun c40 => ?_)
    · replace hf := (if_neg c40).symm.trans hf
      refine g_aload_n (pc := 77) 1 dd_M_rota_39.2.2.2.2.2.2.2.2.2.2.2.2.2.2.2.2.2.2.2.2.1 rfl rfl ?_
      obtain ⟨x28, e29, hf⟩ := bd1_e hf
      refine g_get (pc := 78) (ci := 8) (kk := 29) dd_M_rota_39.2.2.2.2.2.2.2.2.2.2.2.2.2.2.2.2.2.2.2.2.2.1 rfl in_M (by decide) wd_967 (gR_spec e29) ?_
      refine g_iconst (pc := 81) (0 : Int32) dd_M_rota_39.2.2.2.2.2.2.2.2.2.2.2.2.2.2.2.2.2.2.2.2.2.2.1 (by decide) ?_
      obtain ⟨x30, e31, hf⟩ := bd1_e hf
      refine g_iald (pc := 82) dd_M_rota_39.2.2.2.2.2.2.2.2.2.2.2.2.2.2.2.2.2.2.2.2.2.2.2 e31 ?_
      refine g_istore_n (pc := 83) [(3, .int x30), (2, .int x27), (0, .ref b0), (1, .int b1)] dd_M_rota_83.1 rfl (Nat.le_of_ble_eq_true rfl) rfl ?_
      refine g_aload_n (pc := 84) 2 dd_M_rota_83.2.1 rfl rfl ?_
      obtain ⟨x32, e33, hf⟩ := bd1_e hf
      refine g_get (pc := 85) (ci := 8) (kk := 29) dd_M_rota_83.2.2.1 rfl in_M (by decide) wd_967 (gR_spec e33) ?_
      refine g_iconst (pc := 88) (1 : Int32) dd_M_rota_83.2.2.2.1 (by decide) ?_
      obtain ⟨x34, e35, hf⟩ := bd1_e hf
      refine g_iald (pc := 89) dd_M_rota_83.2.2.2.2.1 e35 ?_
      refine g_istore (pc := 90) [(4, .int x34), (3, .int x30), (2, .int x27), (0, .ref b0), (1, .int b1)] dd_M_rota_83.2.2.2.2.2.1 (Nat.le_of_ble_eq_true rfl) rfl ?_
      refine g_aload_n (pc := 92) 3 dd_M_rota_83.2.2.2.2.2.2.1 rfl rfl ?_
      obtain ⟨x36, e37, hf⟩ := bd1_e hf
      refine g_get (pc := 93) (ci := 8) (kk := 29) dd_M_rota_83.2.2.2.2.2.2.2.1 rfl in_M (by decide) wd_967 (gR_spec e37) ?_
      refine g_iconst (pc := 96) (2 : Int32) dd_M_rota_83.2.2.2.2.2.2.2.2.1 (by decide) ?_
      obtain ⟨x38, e39, hf⟩ := bd1_e hf
      refine g_iald (pc := 97) dd_M_rota_83.2.2.2.2.2.2.2.2.2.1 e39 ?_
      refine g_istore (pc := 98) [(5, .int x38), (4, .int x34), (3, .int x30), (2, .int x27), (0, .ref b0), (1, .int b1)] dd_M_rota_83.2.2.2.2.2.2.2.2.2.2.1 (Nat.le_of_ble_eq_true rfl) rfl ?_
      refine g_iconst (pc := 100) (0 : Int32) dd_M_rota_83.2.2.2.2.2.2.2.2.2.2.2.1 (by decide) ?_
      refine g_istore (pc := 101) [(6, .int (0 : Int32)), (5, .int x38), (4, .int x34), (3, .int x30), (2, .int x27), (0, .ref b0), (1, .int b1)] dd_M_rota_83.2.2.2.2.2.2.2.2.2.2.2.2.1 (Nat.le_of_ble_eq_true rfl) rfl ?_
      refine g_lv [5, 6, 3, 2, 1, 0] rfl ?_
      exact t_M_rota_103  FU _ _ _ _ _ _ _ _ _  hf
    · replace hf := (if_pos c40).symm.trans hf
      refine g_lv [0] rfl ?_
      exact t_M_rota_64  _ _ _ _  hf
def f_M_rota_36   (h : mH) : Option (Int32 × mH) :=
  some (((-1) : Int32), h)
set_option maxRecDepth 20000 in
theorem t_M_rota_36 {sc : Nat × (Nat → Int32)}   (h : mH) (r : Int32) (h' : mH) (hf : f_M_rota_36   h = some (r, h')) : G sc y_M_rota prog_10_method_60_code 7 (some .int) 6 150 36 [] [] h (some (.int r)) h' := by
  unfold f_M_rota_36 at hf
  refine g_iconst (pc := 36) ((-1) : Int32) dd_M_rota_0.2.2.2.2.2.2.2.2.2.2.2.2.2.2.2.2.2.2.2.2.2.1 (by decide) ?_
  obtain ⟨rfl, rfl⟩ := ret2 hf
  exact g_iret (pc := 37) rfl dd_M_rota_0.2.2.2.2.2.2.2.2.2.2.2.2.2.2.2.2.2.2.2.2.2.2.1
def f_M_rota_0  (a0 : Nat) (a1 : Int32) (h : mH) : Option (Int32 × mH) :=
  if a1 = 0 then
    f_M_rota_38  a0 a1 h
  else
    if a1 < (10 : Int32) then
      f_M_rota_36  h
    else
      bd1 (kC h a0 8) fun _ =>
      bd2 (f_M_isLaw a0 ((a1 - (10 : Int32)) / (3 : Int32)) h) fun x5 h3 =>
      if x5 = 0 then
        f_M_rota_36  h3
      else
        bd1 (kC h3 a0 8) fun _ =>
        bd2 (f_M_isOne a0 ((a1 - (10 : Int32)) - (a1 - (10 : Int32)) / (3 : Int32) * (3 : Int32)) h3) fun x10 h8 =>
        if x10 = 0 then
          f_M_rota_36  h8
        else
          f_M_rota_38  a0 a1 h8
set_option maxRecDepth 20000 in
theorem t_M_rota_0 {sc : Nat × (Nat → Int32)}  (a0 : Nat) (a1 : Int32) (h : mH) (r : Int32) (h' : mH) (hf : f_M_rota_0  a0 a1 h = some (r, h')) : G sc y_M_rota prog_10_method_60_code 7 (some .int) 6 150 0 [(0, .ref a0), (1, .int a1)] [] h (some (.int r)) h' := by
  unfold f_M_rota_0 at hf
  refine g_iload_n (pc := 0) 1 dd_M_rota_0.1 rfl rfl ?_
  refine g_ifeq (pc := 1) 38 dd_M_rota_0.2.1 (by decide) (fun c14 => ?_) (fun c14 => ?_)
  · replace hf := (if_pos c14).symm.trans hf
    refine g_lv [0, 1] rfl ?_
    exact t_M_rota_38  _ _ _ _ _  hf
  · replace hf := (if_neg c14).symm.trans hf
    refine g_iload_n (pc := 4) 1 dd_M_rota_0.2.2.1 rfl rfl ?_
    refine g_bipush (pc := 5) (10 : Int32) dd_M_rota_0.2.2.2.1 (by decide) ?_
    refine g_icmplt (pc := 7) 36 dd_M_rota_0.2.2.2.2.1 (by decide) (fun c13 => ?_) (fun c13 => ?_)
    · replace hf := (if_pos c13).symm.trans hf
      refine g_lv [] rfl ?_
      exact t_M_rota_36  _ _ _  hf
    · replace hf := (if_neg c13).symm.trans hf
      refine g_aload_n (pc := 10) 0 dd_M_rota_0.2.2.2.2.2.1 rfl rfl ?_
      refine g_iload_n (pc := 11) 1 dd_M_rota_0.2.2.2.2.2.2.1 rfl rfl ?_
      refine g_bipush (pc := 12) (10 : Int32) dd_M_rota_0.2.2.2.2.2.2.2.1 (by decide) ?_
      refine g_isub (pc := 14) dd_M_rota_0.2.2.2.2.2.2.2.2.1 ?_
      refine g_iconst (pc := 15) (3 : Int32) dd_M_rota_0.2.2.2.2.2.2.2.2.2.1 (by decide) ?_
      refine g_idiv (pc := 16) dd_M_rota_0.2.2.2.2.2.2.2.2.2.2.1 (by decide) ?_
      obtain ⟨u2, e1, hf⟩ := bd1_e hf
      obtain ⟨x5, h3, e4, hf⟩ := bd2_e hf
      refine g_callV (pc := 17) (ci := 8) [.int ((a1 - (10 : Int32)) / (3 : Int32))] (site_of si_M_isLaw (by decide) (by decide)) wd_1136 wd_1138 wp_44 dd_M_rota_0.2.2.2.2.2.2.2.2.2.2.2.1 rfl e1 (Nat.le_of_ble_eq_true rfl) (fun z => absurd z si_na_M_isLaw) (fun z => absurd z si_na_M_isLaw) (fun z => absurd z si_na_M_isLaw) (c_M_isLaw e4) rfl ?_
      refine g_st [.int x5] rfl ?_
      refine g_ifeq (pc := 20) 36 dd_M_rota_0.2.2.2.2.2.2.2.2.2.2.2.2.1 (by decide) (fun c12 => ?_) (fun c12 => ?_)
      · replace hf := (if_pos c12).symm.trans hf
        refine g_lv [] rfl ?_
        exact t_M_rota_36  _ _ _  hf
      · replace hf := (if_neg c12).symm.trans hf
        refine g_aload_n (pc := 23) 0 dd_M_rota_0.2.2.2.2.2.2.2.2.2.2.2.2.2.1 rfl rfl ?_
        refine g_iload_n (pc := 24) 1 dd_M_rota_0.2.2.2.2.2.2.2.2.2.2.2.2.2.2.1 rfl rfl ?_
        refine g_bipush (pc := 25) (10 : Int32) dd_M_rota_0.2.2.2.2.2.2.2.2.2.2.2.2.2.2.2.1 (by decide) ?_
        refine g_isub (pc := 27) dd_M_rota_0.2.2.2.2.2.2.2.2.2.2.2.2.2.2.2.2.1 ?_
        refine g_iconst (pc := 28) (3 : Int32) dd_M_rota_0.2.2.2.2.2.2.2.2.2.2.2.2.2.2.2.2.2.1 (by decide) ?_
        refine g_irem (pc := 29) dd_M_rota_0.2.2.2.2.2.2.2.2.2.2.2.2.2.2.2.2.2.2.1 (by decide) ?_
        obtain ⟨u7, e6, hf⟩ := bd1_e hf
        obtain ⟨x10, h8, e9, hf⟩ := bd2_e hf
        refine g_callV (pc := 30) (ci := 8) [.int ((a1 - (10 : Int32)) - (a1 - (10 : Int32)) / (3 : Int32) * (3 : Int32))] (site_of si_M_isOne (by decide) (by decide)) wd_1160 wd_1162 wp_49 dd_M_rota_0.2.2.2.2.2.2.2.2.2.2.2.2.2.2.2.2.2.2.2.1 rfl e6 (Nat.le_of_ble_eq_true rfl) (fun z => absurd z si_na_M_isOne) (fun z => absurd z si_na_M_isOne) (fun z => absurd z si_na_M_isOne) (c_M_isOne e9) rfl ?_
        refine g_st [.int x10] rfl ?_
        refine g_ifne (pc := 33) 38 dd_M_rota_0.2.2.2.2.2.2.2.2.2.2.2.2.2.2.2.2.2.2.2.2.1 (by decide) (fun c11 => ?_) (fun c11 => ?_)
        · replace hf := (if_neg c11).symm.trans hf
          refine g_lv [0, 1] rfl ?_
          exact t_M_rota_38  _ _ _ _ _  hf
        · replace hf := (if_pos c11).symm.trans hf
          refine g_lv [] rfl ?_
          exact t_M_rota_36  _ _ _  hf
def f_M_rota (a0 : Nat) (a1 : Int32) (h : mH) : Option (Int32 × mH) := f_M_rota_0 a0 a1 h
theorem c_M_rota {sc : Nat × (Nat → Int32)} {a0 : Nat} {a1 : Int32} {h : mH} {r : Int32} {h' : mH} (hf : f_M_rota a0 a1 h = some (r, h')) : MM sc y_M_rota prog_10_method_60_code 7 (some .int) 6 150 [.ref a0, .int a1] h (some (.int r)) h' :=
  mm_of_G si_pn_M (Nat.le_of_ble_eq_true rfl) (t_M_rota_0 _ _ _ _ _ hf)
/-! M more (I)I -/
set_option maxRecDepth 100000 in
theorem dd_M_more_0 : (decode prog_10_method_61_code 0 = .ok (.aload_n 0, 1)) ∧ (decode prog_10_method_61_code 1 = .ok (.iload_n 1, 1)) ∧ (decode prog_10_method_61_code 2 = .ok (.invokevirtual 213, 3)) ∧ (decode prog_10_method_61_code 5 = .ok (.ifCond .ne 5, 3)) ∧ (decode prog_10_method_61_code 8 = .ok (.iconst (-1), 1)) ∧ (decode prog_10_method_61_code 9 = .ok (.ireturn, 1)) ∧ (decode prog_10_method_61_code 10 = .ok (.aload_n 0, 1)) ∧ (decode prog_10_method_61_code 11 = .ok (.getfield 7, 3)) ∧ (decode prog_10_method_61_code 14 = .ok (.bipush 12, 2)) ∧ (decode prog_10_method_61_code 16 = .ok (.iload_n 1, 1)) ∧ (decode prog_10_method_61_code 17 = .ok (.iadd, 1)) ∧ (decode prog_10_method_61_code 18 = .ok (.iaload, 1)) ∧ (decode prog_10_method_61_code 19 = .ok (.istore_n 2, 1)) ∧ (decode prog_10_method_61_code 20 = .ok (.bipush (-4), 2)) ∧ (decode prog_10_method_61_code 22 = .ok (.istore_n 3, 1)) ∧ (decode prog_10_method_61_code 23 = .ok (.iconst 0, 1)) ∧ (decode prog_10_method_61_code 24 = .ok (.istore 4, 2)) ∧ (decode prog_10_method_61_code 26 = .ok (.iload 4, 2)) ∧ (decode prog_10_method_61_code 28 = .ok (.bipush 9, 2)) ∧ (decode prog_10_method_61_code 30 = .ok (.if_icmp .gt 56, 3)) ∧ (decode prog_10_method_61_code 33 = .ok (.iload_n 3, 1)) ∧ (decode prog_10_method_61_code 34 = .ok (.bipush (-4), 2)) ∧ (decode prog_10_method_61_code 36 = .ok (.if_icmp .ne 50, 3)) ∧ (decode prog_10_method_61_code 39 = .ok (.aload_n 0, 1)) := by
  have h : List.drop 0 prog_10_method_61_code.data.toList = 0x2a :: _ := rfl
  refine ⟨zq_k_n 42 h rfl (zq_o_42 _), ?_⟩
  replace h := zq_nx1 (q := 1) h rfl
  refine ⟨zq_k_n 27 h rfl (zq_o_27 _), ?_⟩
  replace h := zq_nx1 (q := 2) h rfl
  refine ⟨zq_k_u2 182 (fun z => .invokevirtual z) 213 h rfl (zq_o_182 _) (by decide +kernel), ?_⟩
  replace h := zq_nx3 (q := 5) h rfl
  refine ⟨zq_k_s2 154 (fun z => .ifCond .ne z) 5 h rfl (zq_o_154 _) (by decide +kernel), ?_⟩
  replace h := zq_nx3 (q := 8) h rfl
  refine ⟨zq_k_n 2 h rfl (zq_o_2 _), ?_⟩
  replace h := zq_nx1 (q := 9) h rfl
  refine ⟨zq_k_n 172 h rfl (zq_o_172 _), ?_⟩
  replace h := zq_nx1 (q := 10) h rfl
  refine ⟨zq_k_n 42 h rfl (zq_o_42 _), ?_⟩
  replace h := zq_nx1 (q := 11) h rfl
  refine ⟨zq_k_u2 180 (fun z => .getfield z) 7 h rfl (zq_o_180 _) (by decide +kernel), ?_⟩
  replace h := zq_nx3 (q := 14) h rfl
  refine ⟨zq_k_s1 16 (fun z => .bipush z) 12 h rfl (zq_o_16 _) (by decide +kernel), ?_⟩
  replace h := zq_nx2 (q := 16) h rfl
  refine ⟨zq_k_n 27 h rfl (zq_o_27 _), ?_⟩
  replace h := zq_nx1 (q := 17) h rfl
  refine ⟨zq_k_n 96 h rfl (zq_o_96 _), ?_⟩
  replace h := zq_nx1 (q := 18) h rfl
  refine ⟨zq_k_n 46 h rfl (zq_o_46 _), ?_⟩
  replace h := zq_nx1 (q := 19) h rfl
  refine ⟨zq_k_n 61 h rfl (zq_o_61 _), ?_⟩
  replace h := zq_nx1 (q := 20) h rfl
  refine ⟨zq_k_s1 16 (fun z => .bipush z) (-4) h rfl (zq_o_16 _) (by decide +kernel), ?_⟩
  replace h := zq_nx2 (q := 22) h rfl
  refine ⟨zq_k_n 62 h rfl (zq_o_62 _), ?_⟩
  replace h := zq_nx1 (q := 23) h rfl
  refine ⟨zq_k_n 3 h rfl (zq_o_3 _), ?_⟩
  replace h := zq_nx1 (q := 24) h rfl
  refine ⟨zq_k_u1 54 (fun z => .istore z) 4 h rfl (zq_o_54 _) (by decide +kernel), ?_⟩
  replace h := zq_nx2 (q := 26) h rfl
  refine ⟨zq_k_u1 21 (fun z => .iload z) 4 h rfl (zq_o_21 _) (by decide +kernel), ?_⟩
  replace h := zq_nx2 (q := 28) h rfl
  refine ⟨zq_k_s1 16 (fun z => .bipush z) 9 h rfl (zq_o_16 _) (by decide +kernel), ?_⟩
  replace h := zq_nx2 (q := 30) h rfl
  refine ⟨zq_k_s2 163 (fun z => .if_icmp .gt z) 56 h rfl (zq_o_163 _) (by decide +kernel), ?_⟩
  replace h := zq_nx3 (q := 33) h rfl
  refine ⟨zq_k_n 29 h rfl (zq_o_29 _), ?_⟩
  replace h := zq_nx1 (q := 34) h rfl
  refine ⟨zq_k_s1 16 (fun z => .bipush z) (-4) h rfl (zq_o_16 _) (by decide +kernel), ?_⟩
  replace h := zq_nx2 (q := 36) h rfl
  refine ⟨zq_k_s2 160 (fun z => .if_icmp .ne z) 50 h rfl (zq_o_160 _) (by decide +kernel), ?_⟩
  replace h := zq_nx3 (q := 39) h rfl
  exact zq_k_n 42 h rfl (zq_o_42 _)
set_option maxRecDepth 100000 in
theorem dd_M_more_40 : (decode prog_10_method_61_code 40 = .ok (.getfield 7, 3)) ∧ (decode prog_10_method_61_code 43 = .ok (.bipush 12, 2)) ∧ (decode prog_10_method_61_code 45 = .ok (.iload_n 1, 1)) ∧ (decode prog_10_method_61_code 46 = .ok (.iadd, 1)) ∧ (decode prog_10_method_61_code 47 = .ok (.iload_n 2, 1)) ∧ (decode prog_10_method_61_code 48 = .ok (.iload 4, 2)) ∧ (decode prog_10_method_61_code 50 = .ok (.iadd, 1)) ∧ (decode prog_10_method_61_code 51 = .ok (.iastore, 1)) ∧ (decode prog_10_method_61_code 52 = .ok (.aload_n 0, 1)) ∧ (decode prog_10_method_61_code 53 = .ok (.aload_n 0, 1)) ∧ (decode prog_10_method_61_code 54 = .ok (.getfield 7, 3)) ∧ (decode prog_10_method_61_code 57 = .ok (.bipush 10, 2)) ∧ (decode prog_10_method_61_code 59 = .ok (.iaload, 1)) ∧ (decode prog_10_method_61_code 60 = .ok (.invokevirtual 260, 3)) ∧ (decode prog_10_method_61_code 63 = .ok (.aload_n 0, 1)) ∧ (decode prog_10_method_61_code 64 = .ok (.invokevirtual 263, 3)) ∧ (decode prog_10_method_61_code 67 = .ok (.ldc 246, 2)) ∧ (decode prog_10_method_61_code 69 = .ok (.if_icmp .ne 8, 3)) ∧ (decode prog_10_method_61_code 72 = .ok (.bipush (-4), 2)) ∧ (decode prog_10_method_61_code 74 = .ok (.goto 5, 3)) ∧ (decode prog_10_method_61_code 77 = .ok (.iload 4, 2)) ∧ (decode prog_10_method_61_code 79 = .ok (.istore_n 3, 1)) ∧ (decode prog_10_method_61_code 80 = .ok (.iinc 4 1, 3)) ∧ (decode prog_10_method_61_code 83 = .ok (.goto (-57), 3)) := by
  have h : List.drop 40 prog_10_method_61_code.data.toList = 0xb4 :: _ := rfl
  refine ⟨zq_k_u2 180 (fun z => .getfield z) 7 h rfl (zq_o_180 _) (by decide +kernel), ?_⟩
  replace h := zq_nx3 (q := 43) h rfl
  refine ⟨zq_k_s1 16 (fun z => .bipush z) 12 h rfl (zq_o_16 _) (by decide +kernel), ?_⟩
  replace h := zq_nx2 (q := 45) h rfl
  refine ⟨zq_k_n 27 h rfl (zq_o_27 _), ?_⟩
  replace h := zq_nx1 (q := 46) h rfl
  refine ⟨zq_k_n 96 h rfl (zq_o_96 _), ?_⟩
  replace h := zq_nx1 (q := 47) h rfl
  refine ⟨zq_k_n 28 h rfl (zq_o_28 _), ?_⟩
  replace h := zq_nx1 (q := 48) h rfl
  refine ⟨zq_k_u1 21 (fun z => .iload z) 4 h rfl (zq_o_21 _) (by decide +kernel), ?_⟩
  replace h := zq_nx2 (q := 50) h rfl
  refine ⟨zq_k_n 96 h rfl (zq_o_96 _), ?_⟩
  replace h := zq_nx1 (q := 51) h rfl
  refine ⟨zq_k_n 79 h rfl (zq_o_79 _), ?_⟩
  replace h := zq_nx1 (q := 52) h rfl
  refine ⟨zq_k_n 42 h rfl (zq_o_42 _), ?_⟩
  replace h := zq_nx1 (q := 53) h rfl
  refine ⟨zq_k_n 42 h rfl (zq_o_42 _), ?_⟩
  replace h := zq_nx1 (q := 54) h rfl
  refine ⟨zq_k_u2 180 (fun z => .getfield z) 7 h rfl (zq_o_180 _) (by decide +kernel), ?_⟩
  replace h := zq_nx3 (q := 57) h rfl
  refine ⟨zq_k_s1 16 (fun z => .bipush z) 10 h rfl (zq_o_16 _) (by decide +kernel), ?_⟩
  replace h := zq_nx2 (q := 59) h rfl
  refine ⟨zq_k_n 46 h rfl (zq_o_46 _), ?_⟩
  replace h := zq_nx1 (q := 60) h rfl
  refine ⟨zq_k_u2 182 (fun z => .invokevirtual z) 260 h rfl (zq_o_182 _) (by decide +kernel), ?_⟩
  replace h := zq_nx3 (q := 63) h rfl
  refine ⟨zq_k_n 42 h rfl (zq_o_42 _), ?_⟩
  replace h := zq_nx1 (q := 64) h rfl
  refine ⟨zq_k_u2 182 (fun z => .invokevirtual z) 263 h rfl (zq_o_182 _) (by decide +kernel), ?_⟩
  replace h := zq_nx3 (q := 67) h rfl
  refine ⟨zq_k_u1 18 (fun z => .ldc z) 246 h rfl (zq_o_18 _) (by decide +kernel), ?_⟩
  replace h := zq_nx2 (q := 69) h rfl
  refine ⟨zq_k_s2 160 (fun z => .if_icmp .ne z) 8 h rfl (zq_o_160 _) (by decide +kernel), ?_⟩
  replace h := zq_nx3 (q := 72) h rfl
  refine ⟨zq_k_s1 16 (fun z => .bipush z) (-4) h rfl (zq_o_16 _) (by decide +kernel), ?_⟩
  replace h := zq_nx2 (q := 74) h rfl
  refine ⟨zq_k_s2 167 (fun z => .goto z) 5 h rfl (zq_o_167 _) (by decide +kernel), ?_⟩
  replace h := zq_nx3 (q := 77) h rfl
  refine ⟨zq_k_u1 21 (fun z => .iload z) 4 h rfl (zq_o_21 _) (by decide +kernel), ?_⟩
  replace h := zq_nx2 (q := 79) h rfl
  refine ⟨zq_k_n 62 h rfl (zq_o_62 _), ?_⟩
  replace h := zq_nx1 (q := 80) h rfl
  refine ⟨zq_k_iinc 4 1 h rfl (zq_o_132 _) (by decide +kernel) (by decide +kernel), ?_⟩
  replace h := zq_nx3 (q := 83) h rfl
  exact zq_k_s2 167 (fun z => .goto z) (-57) h rfl (zq_o_167 _) (by decide +kernel)
set_option maxRecDepth 100000 in
theorem dd_M_more_86 : (decode prog_10_method_61_code 86 = .ok (.aload_n 0, 1)) ∧ (decode prog_10_method_61_code 87 = .ok (.getfield 7, 3)) ∧ (decode prog_10_method_61_code 90 = .ok (.bipush 12, 2)) ∧ (decode prog_10_method_61_code 92 = .ok (.iload_n 1, 1)) ∧ (decode prog_10_method_61_code 93 = .ok (.iadd, 1)) ∧ (decode prog_10_method_61_code 94 = .ok (.iload_n 2, 1)) ∧ (decode prog_10_method_61_code 95 = .ok (.iastore, 1)) ∧ (decode prog_10_method_61_code 96 = .ok (.iload_n 3, 1)) ∧ (decode prog_10_method_61_code 97 = .ok (.ireturn, 1)) := by
  have h : List.drop 86 prog_10_method_61_code.data.toList = 0x2a :: _ := rfl
  refine ⟨zq_k_n 42 h rfl (zq_o_42 _), ?_⟩
  replace h := zq_nx1 (q := 87) h rfl
  refine ⟨zq_k_u2 180 (fun z => .getfield z) 7 h rfl (zq_o_180 _) (by decide +kernel), ?_⟩
  replace h := zq_nx3 (q := 90) h rfl
  refine ⟨zq_k_s1 16 (fun z => .bipush z) 12 h rfl (zq_o_16 _) (by decide +kernel), ?_⟩
  replace h := zq_nx2 (q := 92) h rfl
  refine ⟨zq_k_n 27 h rfl (zq_o_27 _), ?_⟩
  replace h := zq_nx1 (q := 93) h rfl
  refine ⟨zq_k_n 96 h rfl (zq_o_96 _), ?_⟩
  replace h := zq_nx1 (q := 94) h rfl
  refine ⟨zq_k_n 28 h rfl (zq_o_28 _), ?_⟩
  replace h := zq_nx1 (q := 95) h rfl
  refine ⟨zq_k_n 79 h rfl (zq_o_79 _), ?_⟩
  replace h := zq_nx1 (q := 96) h rfl
  refine ⟨zq_k_n 29 h rfl (zq_o_29 _), ?_⟩
  replace h := zq_nx1 (q := 97) h rfl
  exact zq_k_n 172 h rfl (zq_o_172 _)
def f_M_more_86  (b0 : Nat) (b1 : Int32) (b2 : Int32) (b3 : Int32) (h : mH) : Option (Int32 × mH) :=
  bd1 (gR h b0 8 0) fun x31 =>
  bd1 (sI h 0 x31 ((12 : Int32) + b1) b2) fun h33 =>
  some (b3, h33)
set_option maxRecDepth 20000 in
theorem t_M_more_86 {sc : Nat × (Nat → Int32)}  (b0 : Nat) (b1 : Int32) (b2 : Int32) (b3 : Int32) (h : mH) (r : Int32) (h' : mH) (hf : f_M_more_86  b0 b1 b2 b3 h = some (r, h')) : G sc y_M_more prog_10_method_61_code 5 (some .int) 6 150 86 [(0, .ref b0), (1, .int b1), (2, .int b2), (3, .int b3)] [] h (some (.int r)) h' := by
  unfold f_M_more_86 at hf
  refine g_aload_n (pc := 86) 0 dd_M_more_86.1 rfl rfl ?_
  obtain ⟨x31, e32, hf⟩ := bd1_e hf
  refine g_get (pc := 87) (ci := 8) (kk := 0) dd_M_more_86.2.1 rfl in_M (by decide) wd_938 (gR_spec e32) ?_
  refine g_bipush (pc := 90) (12 : Int32) dd_M_more_86.2.2.1 (by decide) ?_
  refine g_iload_n (pc := 92) 1 dd_M_more_86.2.2.2.1 rfl rfl ?_
  refine g_iadd (pc := 93) dd_M_more_86.2.2.2.2.1 ?_
  refine g_iload_n (pc := 94) 2 dd_M_more_86.2.2.2.2.2.1 rfl rfl ?_
  obtain ⟨h33, e34, hf⟩ := bd1_e hf
  refine g_iast (pc := 95) dd_M_more_86.2.2.2.2.2.2.1 e34 ?_
  refine g_iload_n (pc := 96) 3 dd_M_more_86.2.2.2.2.2.2.2.1 rfl rfl ?_
  obtain ⟨rfl, rfl⟩ := ret2 hf
  exact g_iret (pc := 97) rfl dd_M_more_86.2.2.2.2.2.2.2.2
def f_M_more_79 (rec26 : Nat → Int32 → Int32 → Int32 → Int32 → mH → Option (Int32 × mH)) (b0 : Nat) (b1 : Int32) (b2 : Int32) (b4 : Int32) (s0 : Int32) (h : mH) : Option (Int32 × mH) :=
  rec26 b0 b1 b2 s0 (b4 + (1 : Int32)) h
set_option maxRecDepth 20000 in
theorem t_M_more_79 {sc : Nat × (Nat → Int32)} (rec26 : Nat → Int32 → Int32 → Int32 → Int32 → mH → Option (Int32 × mH)) (hrec26 : ∀ (b0 : Nat) (b1 : Int32) (b2 : Int32) (b3 : Int32) (b4 : Int32) (h : mH) (r : Int32) (h' : mH), rec26 b0 b1 b2 b3 b4 h = some (r, h') → G sc y_M_more prog_10_method_61_code 5 (some .int) 6 150 26 [(0, .ref b0), (1, .int b1), (2, .int b2), (3, .int b3), (4, .int b4)] [] h (some (.int r)) h') (b0 : Nat) (b1 : Int32) (b2 : Int32) (b4 : Int32) (s0 : Int32) (h : mH) (r : Int32) (h' : mH) (hf : f_M_more_79 rec26 b0 b1 b2 b4 s0 h = some (r, h')) : G sc y_M_more prog_10_method_61_code 5 (some .int) 6 150 79 [(0, .ref b0), (1, .int b1), (2, .int b2), (4, .int b4)] [.int s0] h (some (.int r)) h' := by
  unfold f_M_more_79 at hf
  refine g_istore_n (pc := 79) [(3, .int s0), (0, .ref b0), (1, .int b1), (2, .int b2), (4, .int b4)] dd_M_more_40.2.2.2.2.2.2.2.2.2.2.2.2.2.2.2.2.2.2.2.2.2.1 rfl (Nat.le_of_ble_eq_true rfl) rfl ?_
  refine g_iinc (pc := 80) 4 (b4 + (1 : Int32)) [(4, .int (b4 + (1 : Int32))), (3, .int s0), (0, .ref b0), (1, .int b1), (2, .int b2)] dd_M_more_40.2.2.2.2.2.2.2.2.2.2.2.2.2.2.2.2.2.2.2.2.2.2.1 rfl rfl (Nat.le_of_ble_eq_true rfl) rfl ?_
  refine g_goto (pc := 83) 26 dd_M_more_40.2.2.2.2.2.2.2.2.2.2.2.2.2.2.2.2.2.2.2.2.2.2.2 (by decide) ?_
  refine g_lv [2, 3, 4, 1, 0] rfl ?_
  exact hrec26 _ _ _ _ _ _ _ _  hf
def f_M_more_26b (rec26 : Nat → Int32 → Int32 → Int32 → Int32 → mH → Option (Int32 × mH)) (b0 : Nat) (b1 : Int32) (b2 : Int32) (b3 : Int32) (b4 : Int32) (h : mH) : Option (Int32 × mH) :=
  if (9 : Int32) < b4 then
    f_M_more_86  b0 b1 b2 b3 h
  else
    if b3 = ((-4) : Int32) then
      bd1 (gR h b0 8 0) fun x11 =>
      bd1 (sI h 0 x11 ((12 : Int32) + b1) (b2 + b4)) fun h13 =>
      bd1 (gR h13 b0 8 0) fun x15 =>
      bd1 (aI h13 0 x15 (10 : Int32)) fun x17 =>
      bd1 (kC h13 b0 8) fun _ =>
      bd1 (f_M_startsRota b0 x17 h13) fun h21 =>
      bd1 (kC h21 b0 8) fun _ =>
      bd2 (f_M_findRota b0 h21) fun x27 h25 =>
      if x27 = (1000000 : Int32) then
        f_M_more_79 rec26 b0 b1 b2 b4 ((-4) : Int32) h25
      else
        f_M_more_79 rec26 b0 b1 b2 b4 b4 h25
    else
      f_M_more_86  b0 b1 b2 b3 h
set_option maxRecDepth 20000 in
theorem t_M_more_26b {sc : Nat × (Nat → Int32)} (rec26 : Nat → Int32 → Int32 → Int32 → Int32 → mH → Option (Int32 × mH)) (hrec26 : ∀ (b0 : Nat) (b1 : Int32) (b2 : Int32) (b3 : Int32) (b4 : Int32) (h : mH) (r : Int32) (h' : mH), rec26 b0 b1 b2 b3 b4 h = some (r, h') → G sc y_M_more prog_10_method_61_code 5 (some .int) 6 150 26 [(0, .ref b0), (1, .int b1), (2, .int b2), (3, .int b3), (4, .int b4)] [] h (some (.int r)) h') (b0 : Nat) (b1 : Int32) (b2 : Int32) (b3 : Int32) (b4 : Int32) (h : mH) (r : Int32) (h' : mH) (hf : f_M_more_26b rec26 b0 b1 b2 b3 b4 h = some (r, h')) : G sc y_M_more prog_10_method_61_code 5 (some .int) 6 150 26 [(0, .ref b0), (1, .int b1), (2, .int b2), (3, .int b3), (4, .int b4)] [] h (some (.int r)) h' := by
  unfold f_M_more_26b at hf
  refine g_iload (pc := 26) 4 dd_M_more_0.2.2.2.2.2.2.2.2.2.2.2.2.2.2.2.2.2.1 rfl ?_
  refine g_bipush (pc := 28) (9 : Int32) dd_M_more_0.2.2.2.2.2.2.2.2.2.2.2.2.2.2.2.2.2.2.1 (by decide) ?_
  refine g_icmpgt (pc := 30) 86 dd_M_more_0.2.2.2.2.2.2.2.2.2.2.2.2.2.2.2.2.2.2.2.1 (by decide) (fun c30 => ?_) (fun c30 => ?_)
  · replace hf := (if_pos c30).symm.trans hf
    refine g_lv [0, 1, 2, 3] rfl ?_
    exact t_M_more_86  _ _ _ _ _ _ _  hf
  · replace hf := (if_neg c30).symm.trans hf
    refine g_iload_n (pc := 33) 3 dd_M_more_0.2.2.2.2.2.2.2.2.2.2.2.2.2.2.2.2.2.2.2.2.1 rfl rfl ?_
    refine g_bipush (pc := 34) ((-4) : Int32) dd_M_more_0.2.2.2.2.2.2.2.2.2.2.2.2.2.2.2.2.2.2.2.2.2.1 (by decide) ?_
    refine g_icmpne (pc := 36) 86 dd_M_more_0.2.2.2.2.2.2.2.2.2.2.2.2.2.2.2.2.2.2.2.2.2.2.1 (by decide) (fun c29 => ?_) (fun c29 => ?_)
    · replace hf := (if_neg c29).symm.trans hf
      refine g_lv [0, 1, 2, 3] rfl ?_
      exact t_M_more_86  _ _ _ _ _ _ _  hf
    · replace hf := (if_pos c29).symm.trans hf
      refine g_aload_n (pc := 39) 0 dd_M_more_0.2.2.2.2.2.2.2.2.2.2.2.2.2.2.2.2.2.2.2.2.2.2.2 rfl rfl ?_
      obtain ⟨x11, e12, hf⟩ := bd1_e hf
      refine g_get (pc := 40) (ci := 8) (kk := 0) dd_M_more_40.1 rfl in_M (by decide) wd_938 (gR_spec e12) ?_
      refine g_bipush (pc := 43) (12 : Int32) dd_M_more_40.2.1 (by decide) ?_
      refine g_iload_n (pc := 45) 1 dd_M_more_40.2.2.1 rfl rfl ?_
      refine g_iadd (pc := 46) dd_M_more_40.2.2.2.1 ?_
      refine g_iload_n (pc := 47) 2 dd_M_more_40.2.2.2.2.1 rfl rfl ?_
      refine g_iload (pc := 48) 4 dd_M_more_40.2.2.2.2.2.1 rfl ?_
      refine g_iadd (pc := 50) dd_M_more_40.2.2.2.2.2.2.1 ?_
      obtain ⟨h13, e14, hf⟩ := bd1_e hf
      refine g_iast (pc := 51) dd_M_more_40.2.2.2.2.2.2.2.1 e14 ?_
      refine g_aload_n (pc := 52) 0 dd_M_more_40.2.2.2.2.2.2.2.2.1 rfl rfl ?_
      refine g_aload_n (pc := 53) 0 dd_M_more_40.2.2.2.2.2.2.2.2.2.1 rfl rfl ?_
      obtain ⟨x15, e16, hf⟩ := bd1_e hf
      refine g_get (pc := 54) (ci := 8) (kk := 0) dd_M_more_40.2.2.2.2.2.2.2.2.2.2.1 rfl in_M (by decide) wd_938 (gR_spec e16) ?_
      refine g_bipush (pc := 57) (10 : Int32) dd_M_more_40.2.2.2.2.2.2.2.2.2.2.2.1 (by decide) ?_
      obtain ⟨x17, e18, hf⟩ := bd1_e hf
      refine g_iald (pc := 59) dd_M_more_40.2.2.2.2.2.2.2.2.2.2.2.2.1 e18 ?_
      obtain ⟨u20, e19, hf⟩ := bd1_e hf
      obtain ⟨h21, e22, hf⟩ := bd1_e hf
      refine g_callV (pc := 60) (ci := 8) [.int x17] (site_of si_M_startsRota (by decide) (by decide)) wd_1257 wd_1259 wp_57 dd_M_more_40.2.2.2.2.2.2.2.2.2.2.2.2.2.1 rfl e19 (Nat.le_of_ble_eq_true rfl) (fun z => absurd z si_na_M_startsRota) (fun z => absurd z si_na_M_startsRota) (fun z => absurd z si_na_M_startsRota) (c_M_startsRota e22) rfl ?_
      refine g_st [] rfl ?_
      refine g_aload_n (pc := 63) 0 dd_M_more_40.2.2.2.2.2.2.2.2.2.2.2.2.2.2.1 rfl rfl ?_
      obtain ⟨u24, e23, hf⟩ := bd1_e hf
      obtain ⟨x27, h25, e26, hf⟩ := bd2_e hf
      refine g_callV (pc := 64) (ci := 8) [] (site_of si_M_findRota (by decide) (by decide)) wd_1261 wd_1263 wp_58 dd_M_more_40.2.2.2.2.2.2.2.2.2.2.2.2.2.2.2.1 rfl e23 (Nat.le_of_ble_eq_true rfl) (fun z => absurd z si_na_M_findRota) (fun z => absurd z si_na_M_findRota) (fun z => absurd z si_na_M_findRota) (c_M_findRota e26) rfl ?_
      refine g_st [.int x27] rfl ?_
      refine g_ldc (pc := 67) (1000000 : Int32) dd_M_more_40.2.2.2.2.2.2.2.2.2.2.2.2.2.2.2.2.1 wd_1272 ?_
      refine g_icmpne (pc := 69) 77 dd_M_more_40.2.2.2.2.2.2.2.2.2.2.2.2.2.2.2.2.2.1 (by decide) (fun c28 => ?_) (fun c28 => ?_)
      · replace hf := (if_neg c28).symm.trans hf
        refine g_iload (pc := 77) 4 dd_M_more_40.2.2.2.2.2.2.2.2.2.2.2.2.2.2.2.2.2.2.2.2.1 rfl ?_
        refine g_lv [0, 1, 2, 4] rfl ?_
        exact t_M_more_79 rec26 hrec26 _ _ _ _ _ _ _ _  hf
      · replace hf := (if_pos c28).symm.trans hf
        refine g_bipush (pc := 72) ((-4) : Int32) dd_M_more_40.2.2.2.2.2.2.2.2.2.2.2.2.2.2.2.2.2.2.1 (by decide) ?_
        refine g_goto (pc := 74) 79 dd_M_more_40.2.2.2.2.2.2.2.2.2.2.2.2.2.2.2.2.2.2.2.1 (by decide) ?_
        refine g_lv [0, 1, 2, 4] rfl ?_
        exact t_M_more_79 rec26 hrec26 _ _ _ _ _ _ _ _  hf
def f_M_more_26  : Nat → Nat → Int32 → Int32 → Int32 → Int32 → mH → Option (Int32 × mH)
  | 0 => fun _ _ _ _ _ _ => none
  | n + 1 => f_M_more_26b  (f_M_more_26  n)
theorem t_M_more_26 {sc : Nat × (Nat → Int32)}  : ∀ (n : Nat) (b0 : Nat) (b1 : Int32) (b2 : Int32) (b3 : Int32) (b4 : Int32) (h : mH) (r : Int32) (h' : mH) (hf : f_M_more_26  n b0 b1 b2 b3 b4 h = some (r, h')), G sc y_M_more prog_10_method_61_code 5 (some .int) 6 150 26 [(0, .ref b0), (1, .int b1), (2, .int b2), (3, .int b3), (4, .int b4)] [] h (some (.int r)) h'
  | 0, _, _, _, _, _, _, _, _, hf => by cases hf
  | n + 1, _, _, _, _, _, _, _, _, hf => t_M_more_26b  (f_M_more_26  n) (t_M_more_26  n) _ _ _ _ _ _ _ _ hf
def f_M_more_0  (a0 : Nat) (a1 : Int32) (h : mH) : Option (Int32 × mH) :=
  bd1 (kC h a0 8) fun _ =>
  bd2 (f_M_isOne a0 a1 h) fun x5 h3 =>
  if x5 = 0 then
    some (((-1) : Int32), h3)
  else
    bd1 (gR h3 a0 8 0) fun x6 =>
    bd1 (aI h3 0 x6 ((12 : Int32) + a1)) fun x8 =>
    f_M_more_26  FU a0 a1 x8 ((-4) : Int32) (0 : Int32) h3
set_option maxRecDepth 20000 in
theorem t_M_more_0 {sc : Nat × (Nat → Int32)}  (a0 : Nat) (a1 : Int32) (h : mH) (r : Int32) (h' : mH) (hf : f_M_more_0  a0 a1 h = some (r, h')) : G sc y_M_more prog_10_method_61_code 5 (some .int) 6 150 0 [(0, .ref a0), (1, .int a1)] [] h (some (.int r)) h' := by
  unfold f_M_more_0 at hf
  refine g_aload_n (pc := 0) 0 dd_M_more_0.1 rfl rfl ?_
  refine g_iload_n (pc := 1) 1 dd_M_more_0.2.1 rfl rfl ?_
  obtain ⟨u2, e1, hf⟩ := bd1_e hf
  obtain ⟨x5, h3, e4, hf⟩ := bd2_e hf
  refine g_callV (pc := 2) (ci := 8) [.int a1] (site_of si_M_isOne (by decide) (by decide)) wd_1160 wd_1162 wp_49 dd_M_more_0.2.2.1 rfl e1 (Nat.le_of_ble_eq_true rfl) (fun z => absurd z si_na_M_isOne) (fun z => absurd z si_na_M_isOne) (fun z => absurd z si_na_M_isOne) (c_M_isOne e4) rfl ?_
  refine g_st [.int x5] rfl ?_
  refine g_ifne (pc := 5) 10 dd_M_more_0.2.2.2.1 (by decide) (fun c10 => ?_) (fun c10 => ?_)
  · replace hf := (if_neg c10).symm.trans hf
    refine g_aload_n (pc := 10) 0 dd_M_more_0.2.2.2.2.2.2.1 rfl rfl ?_
    obtain ⟨x6, e7, hf⟩ := bd1_e hf
    refine g_get (pc := 11) (ci := 8) (kk := 0) dd_M_more_0.2.2.2.2.2.2.2.1 rfl in_M (by decide) wd_938 (gR_spec e7) ?_
    refine g_bipush (pc := 14) (12 : Int32) dd_M_more_0.2.2.2.2.2.2.2.2.1 (by decide) ?_
    refine g_iload_n (pc := 16) 1 dd_M_more_0.2.2.2.2.2.2.2.2.2.1 rfl rfl ?_
    refine g_iadd (pc := 17) dd_M_more_0.2.2.2.2.2.2.2.2.2.2.1 ?_
    obtain ⟨x8, e9, hf⟩ := bd1_e hf
    refine g_iald (pc := 18) dd_M_more_0.2.2.2.2.2.2.2.2.2.2.2.1 e9 ?_
    refine g_istore_n (pc := 19) [(2, .int x8), (0, .ref a0), (1, .int a1)] dd_M_more_0.2.2.2.2.2.2.2.2.2.2.2.2.1 rfl (Nat.le_of_ble_eq_true rfl) rfl ?_
    refine g_bipush (pc := 20) ((-4) : Int32) dd_M_more_0.2.2.2.2.2.2.2.2.2.2.2.2.2.1 (by decide) ?_
    refine g_istore_n (pc := 22) [(3, .int ((-4) : Int32)), (2, .int x8), (0, .ref a0), (1, .int a1)] dd_M_more_0.2.2.2.2.2.2.2.2.2.2.2.2.2.2.1 rfl (Nat.le_of_ble_eq_true rfl) rfl ?_
    refine g_iconst (pc := 23) (0 : Int32) dd_M_more_0.2.2.2.2.2.2.2.2.2.2.2.2.2.2.2.1 (by decide) ?_
    refine g_istore (pc := 24) [(4, .int (0 : Int32)), (3, .int ((-4) : Int32)), (2, .int x8), (0, .ref a0), (1, .int a1)] dd_M_more_0.2.2.2.2.2.2.2.2.2.2.2.2.2.2.2.2.1 (Nat.le_of_ble_eq_true rfl) rfl ?_
    refine g_lv [3, 4, 2, 1, 0] rfl ?_
    exact t_M_more_26  FU _ _ _ _ _ _ _ _  hf
  · replace hf := (if_pos c10).symm.trans hf
    refine g_iconst (pc := 8) ((-1) : Int32) dd_M_more_0.2.2.2.2.1 (by decide) ?_
    obtain ⟨rfl, rfl⟩ := ret2 hf
    exact g_iret (pc := 9) rfl dd_M_more_0.2.2.2.2.2.1
def f_M_more (a0 : Nat) (a1 : Int32) (h : mH) : Option (Int32 × mH) := f_M_more_0 a0 a1 h
theorem c_M_more {sc : Nat × (Nat → Int32)} {a0 : Nat} {a1 : Int32} {h : mH} {r : Int32} {h' : mH} (hf : f_M_more a0 a1 h = some (r, h')) : MM sc y_M_more prog_10_method_61_code 5 (some .int) 6 150 [.ref a0, .int a1] h (some (.int r)) h' :=
  mm_of_G si_pn_M (Nat.le_of_ble_eq_true rfl) (t_M_more_0 _ _ _ _ _ hf)
/-! M together (I)I -/
set_option maxRecDepth 100000 in
theorem dd_M_together_0 : (decode prog_10_method_62_code 0 = .ok (.iload_n 1, 1)) ∧ (decode prog_10_method_62_code 1 = .ok (.i2l, 1)) ∧ (decode prog_10_method_62_code 2 = .ok (.lconst 0, 1)) ∧ (decode prog_10_method_62_code 3 = .ok (.lconst 1, 1)) ∧ (decode prog_10_method_62_code 4 = .ok (.invokestatic 114, 3)) ∧ (decode prog_10_method_62_code 7 = .ok (.ifCond .ne 5, 3)) ∧ (decode prog_10_method_62_code 10 = .ok (.iconst (-1), 1)) ∧ (decode prog_10_method_62_code 11 = .ok (.ireturn, 1)) ∧ (decode prog_10_method_62_code 12 = .ok (.iconst (-1), 1)) ∧ (decode prog_10_method_62_code 13 = .ok (.istore_n 2, 1)) ∧ (decode prog_10_method_62_code 14 = .ok (.iconst 0, 1)) ∧ (decode prog_10_method_62_code 15 = .ok (.istore_n 3, 1)) ∧ (decode prog_10_method_62_code 16 = .ok (.iconst 0, 1)) ∧ (decode prog_10_method_62_code 17 = .ok (.istore 4, 2)) ∧ (decode prog_10_method_62_code 19 = .ok (.iload 4, 2)) ∧ (decode prog_10_method_62_code 21 = .ok (.iconst 1, 1)) ∧ (decode prog_10_method_62_code 22 = .ok (.aload_n 0, 1)) ∧ (decode prog_10_method_62_code 23 = .ok (.getfield 106, 3)) ∧ (decode prog_10_method_62_code 26 = .ok (.ishl, 1)) ∧ (decode prog_10_method_62_code 27 = .ok (.if_icmp .ge 82, 3)) ∧ (decode prog_10_method_62_code 30 = .ok (.aload_n 0, 1)) ∧ (decode prog_10_method_62_code 31 = .ok (.iload 4, 2)) ∧ (decode prog_10_method_62_code 33 = .ok (.invokevirtual 260, 3)) ∧ (decode prog_10_method_62_code 36 = .ok (.iload 4, 2)) := by
  have h : List.drop 0 prog_10_method_62_code.data.toList = 0x1b :: _ := rfl
  refine ⟨zq_k_n 27 h rfl (zq_o_27 _), ?_⟩
  replace h := zq_nx1 (q := 1) h rfl
  refine ⟨zq_k_n 133 h rfl (zq_o_133 _), ?_⟩
  replace h := zq_nx1 (q := 2) h rfl
  refine ⟨zq_k_n 9 h rfl (zq_o_9 _), ?_⟩
  replace h := zq_nx1 (q := 3) h rfl
  refine ⟨zq_k_n 10 h rfl (zq_o_10 _), ?_⟩
  replace h := zq_nx1 (q := 4) h rfl
  refine ⟨zq_k_u2 184 (fun z => .invokestatic z) 114 h rfl (zq_o_184 _) (by decide +kernel), ?_⟩
  replace h := zq_nx3 (q := 7) h rfl
  refine ⟨zq_k_s2 154 (fun z => .ifCond .ne z) 5 h rfl (zq_o_154 _) (by decide +kernel), ?_⟩
  replace h := zq_nx3 (q := 10) h rfl
  refine ⟨zq_k_n 2 h rfl (zq_o_2 _), ?_⟩
  replace h := zq_nx1 (q := 11) h rfl
  refine ⟨zq_k_n 172 h rfl (zq_o_172 _), ?_⟩
  replace h := zq_nx1 (q := 12) h rfl
  refine ⟨zq_k_n 2 h rfl (zq_o_2 _), ?_⟩
  replace h := zq_nx1 (q := 13) h rfl
  refine ⟨zq_k_n 61 h rfl (zq_o_61 _), ?_⟩
  replace h := zq_nx1 (q := 14) h rfl
  refine ⟨zq_k_n 3 h rfl (zq_o_3 _), ?_⟩
  replace h := zq_nx1 (q := 15) h rfl
  refine ⟨zq_k_n 62 h rfl (zq_o_62 _), ?_⟩
  replace h := zq_nx1 (q := 16) h rfl
  refine ⟨zq_k_n 3 h rfl (zq_o_3 _), ?_⟩
  replace h := zq_nx1 (q := 17) h rfl
  refine ⟨zq_k_u1 54 (fun z => .istore z) 4 h rfl (zq_o_54 _) (by decide +kernel), ?_⟩
  replace h := zq_nx2 (q := 19) h rfl
  refine ⟨zq_k_u1 21 (fun z => .iload z) 4 h rfl (zq_o_21 _) (by decide +kernel), ?_⟩
  replace h := zq_nx2 (q := 21) h rfl
  refine ⟨zq_k_n 4 h rfl (zq_o_4 _), ?_⟩
  replace h := zq_nx1 (q := 22) h rfl
  refine ⟨zq_k_n 42 h rfl (zq_o_42 _), ?_⟩
  replace h := zq_nx1 (q := 23) h rfl
  refine ⟨zq_k_u2 180 (fun z => .getfield z) 106 h rfl (zq_o_180 _) (by decide +kernel), ?_⟩
  replace h := zq_nx3 (q := 26) h rfl
  refine ⟨zq_k_n 120 h rfl (zq_o_120 _), ?_⟩
  replace h := zq_nx1 (q := 27) h rfl
  refine ⟨zq_k_s2 162 (fun z => .if_icmp .ge z) 82 h rfl (zq_o_162 _) (by decide +kernel), ?_⟩
  replace h := zq_nx3 (q := 30) h rfl
  refine ⟨zq_k_n 42 h rfl (zq_o_42 _), ?_⟩
  replace h := zq_nx1 (q := 31) h rfl
  refine ⟨zq_k_u1 21 (fun z => .iload z) 4 h rfl (zq_o_21 _) (by decide +kernel), ?_⟩
  replace h := zq_nx2 (q := 33) h rfl
  refine ⟨zq_k_u2 182 (fun z => .invokevirtual z) 260 h rfl (zq_o_182 _) (by decide +kernel), ?_⟩
  replace h := zq_nx3 (q := 36) h rfl
  exact zq_k_u1 21 (fun z => .iload z) 4 h rfl (zq_o_21 _) (by decide +kernel)
set_option maxRecDepth 100000 in
theorem dd_M_together_38 : (decode prog_10_method_62_code 38 = .ok (.aload_n 0, 1)) ∧ (decode prog_10_method_62_code 39 = .ok (.getfield 7, 3)) ∧ (decode prog_10_method_62_code 42 = .ok (.bipush 10, 2)) ∧ (decode prog_10_method_62_code 44 = .ok (.iaload, 1)) ∧ (decode prog_10_method_62_code 45 = .ok (.iconst (-1), 1)) ∧ (decode prog_10_method_62_code 46 = .ok (.ixor, 1)) ∧ (decode prog_10_method_62_code 47 = .ok (.iand, 1)) ∧ (decode prog_10_method_62_code 48 = .ok (.ifCond .ne 25, 3)) ∧ (decode prog_10_method_62_code 51 = .ok (.iload 4, 2)) ∧ (decode prog_10_method_62_code 53 = .ok (.invokestatic 237, 3)) ∧ (decode prog_10_method_62_code 56 = .ok (.iload_n 2, 1)) ∧ (decode prog_10_method_62_code 57 = .ok (.if_icmp .le 16, 3)) ∧ (decode prog_10_method_62_code 60 = .ok (.aload_n 0, 1)) ∧ (decode prog_10_method_62_code 61 = .ok (.invokevirtual 263, 3)) ∧ (decode prog_10_method_62_code 64 = .ok (.ldc 246, 2)) ∧ (decode prog_10_method_62_code 66 = .ok (.if_icmp .eq 7, 3)) ∧ (decode prog_10_method_62_code 69 = .ok (.iconst 1, 1)) ∧ (decode prog_10_method_62_code 70 = .ok (.goto 4, 3)) ∧ (decode prog_10_method_62_code 73 = .ok (.iconst 0, 1)) ∧ (decode prog_10_method_62_code 74 = .ok (.istore 5, 2)) ∧ (decode prog_10_method_62_code 76 = .ok (.iload 5, 2)) ∧ (decode prog_10_method_62_code 78 = .ok (.ifCond .eq 8, 3)) ∧ (decode prog_10_method_62_code 81 = .ok (.iload 4, 2)) ∧ (decode prog_10_method_62_code 83 = .ok (.goto 4, 3)) := by
  have h : List.drop 38 prog_10_method_62_code.data.toList = 0x2a :: _ := rfl
  refine ⟨zq_k_n 42 h rfl (zq_o_42 _), ?_⟩
  replace h := zq_nx1 (q := 39) h rfl
  refine ⟨zq_k_u2 180 (fun z => .getfield z) 7 h rfl (zq_o_180 _) (by decide +kernel), ?_⟩
  replace h := zq_nx3 (q := 42) h rfl
  refine ⟨zq_k_s1 16 (fun z => .bipush z) 10 h rfl (zq_o_16 _) (by decide +kernel), ?_⟩
  replace h := zq_nx2 (q := 44) h rfl
  refine ⟨zq_k_n 46 h rfl (zq_o_46 _), ?_⟩
  replace h := zq_nx1 (q := 45) h rfl
  refine ⟨zq_k_n 2 h rfl (zq_o_2 _), ?_⟩
  replace h := zq_nx1 (q := 46) h rfl
  refine ⟨zq_k_n 130 h rfl (zq_o_130 _), ?_⟩
  replace h := zq_nx1 (q := 47) h rfl
  refine ⟨zq_k_n 126 h rfl (zq_o_126 _), ?_⟩
  replace h := zq_nx1 (q := 48) h rfl
  refine ⟨zq_k_s2 154 (fun z => .ifCond .ne z) 25 h rfl (zq_o_154 _) (by decide +kernel), ?_⟩
  replace h := zq_nx3 (q := 51) h rfl
  refine ⟨zq_k_u1 21 (fun z => .iload z) 4 h rfl (zq_o_21 _) (by decide +kernel), ?_⟩
  replace h := zq_nx2 (q := 53) h rfl
  refine ⟨zq_k_u2 184 (fun z => .invokestatic z) 237 h rfl (zq_o_184 _) (by decide +kernel), ?_⟩
  replace h := zq_nx3 (q := 56) h rfl
  refine ⟨zq_k_n 28 h rfl (zq_o_28 _), ?_⟩
  replace h := zq_nx1 (q := 57) h rfl
  refine ⟨zq_k_s2 164 (fun z => .if_icmp .le z) 16 h rfl (zq_o_164 _) (by decide +kernel), ?_⟩
  replace h := zq_nx3 (q := 60) h rfl
  refine ⟨zq_k_n 42 h rfl (zq_o_42 _), ?_⟩
  replace h := zq_nx1 (q := 61) h rfl
  refine ⟨zq_k_u2 182 (fun z => .invokevirtual z) 263 h rfl (zq_o_182 _) (by decide +kernel), ?_⟩
  replace h := zq_nx3 (q := 64) h rfl
  refine ⟨zq_k_u1 18 (fun z => .ldc z) 246 h rfl (zq_o_18 _) (by decide +kernel), ?_⟩
  replace h := zq_nx2 (q := 66) h rfl
  refine ⟨zq_k_s2 159 (fun z => .if_icmp .eq z) 7 h rfl (zq_o_159 _) (by decide +kernel), ?_⟩
  replace h := zq_nx3 (q := 69) h rfl
  refine ⟨zq_k_n 4 h rfl (zq_o_4 _), ?_⟩
  replace h := zq_nx1 (q := 70) h rfl
  refine ⟨zq_k_s2 167 (fun z => .goto z) 4 h rfl (zq_o_167 _) (by decide +kernel), ?_⟩
  replace h := zq_nx3 (q := 73) h rfl
  refine ⟨zq_k_n 3 h rfl (zq_o_3 _), ?_⟩
  replace h := zq_nx1 (q := 74) h rfl
  refine ⟨zq_k_u1 54 (fun z => .istore z) 5 h rfl (zq_o_54 _) (by decide +kernel), ?_⟩
  replace h := zq_nx2 (q := 76) h rfl
  refine ⟨zq_k_u1 21 (fun z => .iload z) 5 h rfl (zq_o_21 _) (by decide +kernel), ?_⟩
  replace h := zq_nx2 (q := 78) h rfl
  refine ⟨zq_k_s2 153 (fun z => .ifCond .eq z) 8 h rfl (zq_o_153 _) (by decide +kernel), ?_⟩
  replace h := zq_nx3 (q := 81) h rfl
  refine ⟨zq_k_u1 21 (fun z => .iload z) 4 h rfl (zq_o_21 _) (by decide +kernel), ?_⟩
  replace h := zq_nx2 (q := 83) h rfl
  exact zq_k_s2 167 (fun z => .goto z) 4 h rfl (zq_o_167 _) (by decide +kernel)
set_option maxRecDepth 100000 in
theorem dd_M_together_86 : (decode prog_10_method_62_code 86 = .ok (.iload_n 3, 1)) ∧ (decode prog_10_method_62_code 87 = .ok (.istore_n 3, 1)) ∧ (decode prog_10_method_62_code 88 = .ok (.iload 5, 2)) ∧ (decode prog_10_method_62_code 90 = .ok (.ifCond .eq 11, 3)) ∧ (decode prog_10_method_62_code 93 = .ok (.iload 4, 2)) ∧ (decode prog_10_method_62_code 95 = .ok (.invokestatic 237, 3)) ∧ (decode prog_10_method_62_code 98 = .ok (.goto 4, 3)) ∧ (decode prog_10_method_62_code 101 = .ok (.iload_n 2, 1)) ∧ (decode prog_10_method_62_code 102 = .ok (.istore_n 2, 1)) ∧ (decode prog_10_method_62_code 103 = .ok (.iinc 4 1, 3)) ∧ (decode prog_10_method_62_code 106 = .ok (.goto (-87), 3)) ∧ (decode prog_10_method_62_code 109 = .ok (.iload_n 1, 1)) ∧ (decode prog_10_method_62_code 110 = .ok (.ifCond .ne 7, 3)) ∧ (decode prog_10_method_62_code 113 = .ok (.iload_n 2, 1)) ∧ (decode prog_10_method_62_code 114 = .ok (.goto 4, 3)) ∧ (decode prog_10_method_62_code 117 = .ok (.iload_n 3, 1)) ∧ (decode prog_10_method_62_code 118 = .ok (.ireturn, 1)) := by
  have h : List.drop 86 prog_10_method_62_code.data.toList = 0x1d :: _ := rfl
  refine ⟨zq_k_n 29 h rfl (zq_o_29 _), ?_⟩
  replace h := zq_nx1 (q := 87) h rfl
  refine ⟨zq_k_n 62 h rfl (zq_o_62 _), ?_⟩
  replace h := zq_nx1 (q := 88) h rfl
  refine ⟨zq_k_u1 21 (fun z => .iload z) 5 h rfl (zq_o_21 _) (by decide +kernel), ?_⟩
  replace h := zq_nx2 (q := 90) h rfl
  refine ⟨zq_k_s2 153 (fun z => .ifCond .eq z) 11 h rfl (zq_o_153 _) (by decide +kernel), ?_⟩
  replace h := zq_nx3 (q := 93) h rfl
  refine ⟨zq_k_u1 21 (fun z => .iload z) 4 h rfl (zq_o_21 _) (by decide +kernel), ?_⟩
  replace h := zq_nx2 (q := 95) h rfl
  refine ⟨zq_k_u2 184 (fun z => .invokestatic z) 237 h rfl (zq_o_184 _) (by decide +kernel), ?_⟩
  replace h := zq_nx3 (q := 98) h rfl
  refine ⟨zq_k_s2 167 (fun z => .goto z) 4 h rfl (zq_o_167 _) (by decide +kernel), ?_⟩
  replace h := zq_nx3 (q := 101) h rfl
  refine ⟨zq_k_n 28 h rfl (zq_o_28 _), ?_⟩
  replace h := zq_nx1 (q := 102) h rfl
  refine ⟨zq_k_n 61 h rfl (zq_o_61 _), ?_⟩
  replace h := zq_nx1 (q := 103) h rfl
  refine ⟨zq_k_iinc 4 1 h rfl (zq_o_132 _) (by decide +kernel) (by decide +kernel), ?_⟩
  replace h := zq_nx3 (q := 106) h rfl
  refine ⟨zq_k_s2 167 (fun z => .goto z) (-87) h rfl (zq_o_167 _) (by decide +kernel), ?_⟩
  replace h := zq_nx3 (q := 109) h rfl
  refine ⟨zq_k_n 27 h rfl (zq_o_27 _), ?_⟩
  replace h := zq_nx1 (q := 110) h rfl
  refine ⟨zq_k_s2 154 (fun z => .ifCond .ne z) 7 h rfl (zq_o_154 _) (by decide +kernel), ?_⟩
  replace h := zq_nx3 (q := 113) h rfl
  refine ⟨zq_k_n 28 h rfl (zq_o_28 _), ?_⟩
  replace h := zq_nx1 (q := 114) h rfl
  refine ⟨zq_k_s2 167 (fun z => .goto z) 4 h rfl (zq_o_167 _) (by decide +kernel), ?_⟩
  replace h := zq_nx3 (q := 117) h rfl
  refine ⟨zq_k_n 29 h rfl (zq_o_29 _), ?_⟩
  replace h := zq_nx1 (q := 118) h rfl
  exact zq_k_n 172 h rfl (zq_o_172 _)
def f_M_together_102 (rec19 : Nat → Int32 → Int32 → Int32 → Int32 → mH → Option (Int32 × mH)) (b0 : Nat) (b1 : Int32) (b3 : Int32) (b4 : Int32) (s0 : Int32) (h : mH) : Option (Int32 × mH) :=
  rec19 b0 b1 s0 b3 (b4 + (1 : Int32)) h
set_option maxRecDepth 20000 in
theorem t_M_together_102 {sc : Nat × (Nat → Int32)} (rec19 : Nat → Int32 → Int32 → Int32 → Int32 → mH → Option (Int32 × mH)) (hrec19 : ∀ (b0 : Nat) (b1 : Int32) (b2 : Int32) (b3 : Int32) (b4 : Int32) (h : mH) (r : Int32) (h' : mH), rec19 b0 b1 b2 b3 b4 h = some (r, h') → G sc y_M_together prog_10_method_62_code 6 (some .int) 6 150 19 [(0, .ref b0), (1, .int b1), (2, .int b2), (3, .int b3), (4, .int b4)] [] h (some (.int r)) h') (b0 : Nat) (b1 : Int32) (b3 : Int32) (b4 : Int32) (s0 : Int32) (h : mH) (r : Int32) (h' : mH) (hf : f_M_together_102 rec19 b0 b1 b3 b4 s0 h = some (r, h')) : G sc y_M_together prog_10_method_62_code 6 (some .int) 6 150 102 [(0, .ref b0), (1, .int b1), (3, .int b3), (4, .int b4)] [.int s0] h (some (.int r)) h' := by
  unfold f_M_together_102 at hf
  refine g_istore_n (pc := 102) [(2, .int s0), (0, .ref b0), (1, .int b1), (3, .int b3), (4, .int b4)] dd_M_together_86.2.2.2.2.2.2.2.2.1 rfl (Nat.le_of_ble_eq_true rfl) rfl ?_
  refine g_iinc (pc := 103) 4 (b4 + (1 : Int32)) [(4, .int (b4 + (1 : Int32))), (2, .int s0), (0, .ref b0), (1, .int b1), (3, .int b3)] dd_M_together_86.2.2.2.2.2.2.2.2.2.1 rfl rfl (Nat.le_of_ble_eq_true rfl) rfl ?_
  refine g_goto (pc := 106) 19 dd_M_together_86.2.2.2.2.2.2.2.2.2.2.1 (by decide) ?_
  refine g_lv [2, 3, 1, 4, 0] rfl ?_
  exact hrec19 _ _ _ _ _ _ _ _  hf
def f_M_together_87 (rec19 : Nat → Int32 → Int32 → Int32 → Int32 → mH → Option (Int32 × mH)) (b0 : Nat) (b1 : Int32) (b2 : Int32) (b4 : Int32) (b5 : Int32) (s0 : Int32) (h : mH) : Option (Int32 × mH) :=
  if b5 = 0 then
    f_M_together_102 rec19 b0 b1 s0 b4 b2 h
  else
    bd2 (f_M_bitsOf b4 h) fun x31 h29 =>
    f_M_together_102 rec19 b0 b1 s0 b4 x31 h29
set_option maxRecDepth 20000 in
theorem t_M_together_87 {sc : Nat × (Nat → Int32)} (rec19 : Nat → Int32 → Int32 → Int32 → Int32 → mH → Option (Int32 × mH)) (hrec19 : ∀ (b0 : Nat) (b1 : Int32) (b2 : Int32) (b3 : Int32) (b4 : Int32) (h : mH) (r : Int32) (h' : mH), rec19 b0 b1 b2 b3 b4 h = some (r, h') → G sc y_M_together prog_10_method_62_code 6 (some .int) 6 150 19 [(0, .ref b0), (1, .int b1), (2, .int b2), (3, .int b3), (4, .int b4)] [] h (some (.int r)) h') (b0 : Nat) (b1 : Int32) (b2 : Int32) (b4 : Int32) (b5 : Int32) (s0 : Int32) (h : mH) (r : Int32) (h' : mH) (hf : f_M_together_87 rec19 b0 b1 b2 b4 b5 s0 h = some (r, h')) : G sc y_M_together prog_10_method_62_code 6 (some .int) 6 150 87 [(0, .ref b0), (1, .int b1), (2, .int b2), (4, .int b4), (5, .int b5)] [.int s0] h (some (.int r)) h' := by
  unfold f_M_together_87 at hf
  refine g_istore_n (pc := 87) [(3, .int s0), (0, .ref b0), (1, .int b1), (2, .int b2), (4, .int b4), (5, .int b5)] dd_M_together_86.2.1 rfl (Nat.le_of_ble_eq_true rfl) rfl ?_
  refine g_iload (pc := 88) 5 dd_M_together_86.2.2.1 rfl ?_
  refine g_ifeq (pc := 90) 101 dd_M_together_86.2.2.2.1 (by decide) (fun c32 => ?_) (fun c32 => ?_)
  · replace hf := (if_pos c32).symm.trans hf
    refine g_iload_n (pc := 101) 3 dd_M_together_86.2.2.2.2.2.2.2.1 rfl rfl ?_
    refine g_lv [1, 2, 0, 4] rfl ?_
    exact t_M_together_102 rec19 hrec19 _ _ _ _ _ _ _ _  hf
  · replace hf := (if_neg c32).symm.trans hf
    refine g_iload (pc := 93) 4 dd_M_together_86.2.2.2.2.1 rfl ?_
    obtain ⟨x31, h29, e30, hf⟩ := bd2_e hf
    refine g_callS (pc := 95) [.int b4] (site_of si_M_bitsOf (by decide) (by decide)) wd_1230 wd_1231 dd_M_together_86.2.2.2.2.2.1 (Nat.le_of_ble_eq_true rfl) (fun z => absurd z si_na_M_bitsOf) (fun z => absurd z si_na_M_bitsOf) (fun z => absurd z si_na_M_bitsOf) (c_M_bitsOf e30) rfl ?_
    refine g_st [.int x31] rfl ?_
    refine g_goto (pc := 98) 102 dd_M_together_86.2.2.2.2.2.2.1 (by decide) ?_
    refine g_lv [1, 2, 0, 4] rfl ?_
    exact t_M_together_102 rec19 hrec19 _ _ _ _ _ _ _ _  hf
def f_M_together_74 (rec19 : Nat → Int32 → Int32 → Int32 → Int32 → mH → Option (Int32 × mH)) (b0 : Nat) (b1 : Int32) (b2 : Int32) (b3 : Int32) (b4 : Int32) (s0 : Int32) (h : mH) : Option (Int32 × mH) :=
  if s0 = 0 then
    f_M_together_87 rec19 b0 b1 b2 b4 s0 b3 h
  else
    f_M_together_87 rec19 b0 b1 b2 b4 s0 b4 h
set_option maxRecDepth 20000 in
theorem t_M_together_74 {sc : Nat × (Nat → Int32)} (rec19 : Nat → Int32 → Int32 → Int32 → Int32 → mH → Option (Int32 × mH)) (hrec19 : ∀ (b0 : Nat) (b1 : Int32) (b2 : Int32) (b3 : Int32) (b4 : Int32) (h : mH) (r : Int32) (h' : mH), rec19 b0 b1 b2 b3 b4 h = some (r, h') → G sc y_M_together prog_10_method_62_code 6 (some .int) 6 150 19 [(0, .ref b0), (1, .int b1), (2, .int b2), (3, .int b3), (4, .int b4)] [] h (some (.int r)) h') (b0 : Nat) (b1 : Int32) (b2 : Int32) (b3 : Int32) (b4 : Int32) (s0 : Int32) (h : mH) (r : Int32) (h' : mH) (hf : f_M_together_74 rec19 b0 b1 b2 b3 b4 s0 h = some (r, h')) : G sc y_M_together prog_10_method_62_code 6 (some .int) 6 150 74 [(0, .ref b0), (1, .int b1), (2, .int b2), (3, .int b3), (4, .int b4)] [.int s0] h (some (.int r)) h' := by
  unfold f_M_together_74 at hf
  refine g_istore (pc := 74) [(5, .int s0), (0, .ref b0), (1, .int b1), (2, .int b2), (3, .int b3), (4, .int b4)] dd_M_together_38.2.2.2.2.2.2.2.2.2.2.2.2.2.2.2.2.2.2.2.1 (Nat.le_of_ble_eq_true rfl) rfl ?_
  refine g_iload (pc := 76) 0 dd_M_together_38.2.2.2.2.2.2.2.2.2.2.2.2.2.2.2.2.2.2.2.2.1 rfl ?_
  refine g_ifeq (pc := 78) 86 dd_M_together_38.2.2.2.2.2.2.2.2.2.2.2.2.2.2.2.2.2.2.2.2.2.1 (by decide) (fun c28 => ?_) (fun c28 => ?_)
  · replace hf := (if_pos c28).symm.trans hf
    refine g_iload_n (pc := 86) 4 dd_M_together_86.1 rfl rfl ?_
    refine g_lv [1, 2, 3, 5, 0] rfl ?_
    exact t_M_together_87 rec19 hrec19 _ _ _ _ _ _ _ _ _  hf
  · replace hf := (if_neg c28).symm.trans hf
    refine g_iload (pc := 81) 5 dd_M_together_38.2.2.2.2.2.2.2.2.2.2.2.2.2.2.2.2.2.2.2.2.2.2.1 rfl ?_
    refine g_goto (pc := 83) 87 dd_M_together_38.2.2.2.2.2.2.2.2.2.2.2.2.2.2.2.2.2.2.2.2.2.2.2 (by decide) ?_
    refine g_lv [1, 2, 3, 5, 0] rfl ?_
    exact t_M_together_87 rec19 hrec19 _ _ _ _ _ _ _ _ _  hf
def f_M_together_73 (rec19 : Nat → Int32 → Int32 → Int32 → Int32 → mH → Option (Int32 × mH)) (b0 : Nat) (b1 : Int32) (b2 : Int32) (b3 : Int32) (b4 : Int32) (h : mH) : Option (Int32 × mH) :=
  f_M_together_74 rec19 b0 b1 b2 b3 b4 (0 : Int32) h
set_option maxRecDepth 20000 in
theorem t_M_together_73 {sc : Nat × (Nat → Int32)} (rec19 : Nat → Int32 → Int32 → Int32 → Int32 → mH → Option (Int32 × mH)) (hrec19 : ∀ (b0 : Nat) (b1 : Int32) (b2 : Int32) (b3 : Int32) (b4 : Int32) (h : mH) (r : Int32) (h' : mH), rec19 b0 b1 b2 b3 b4 h = some (r, h') → G sc y_M_together prog_10_method_62_code 6 (some .int) 6 150 19 [(0, .ref b0), (1, .int b1), (2, .int b2), (3, .int b3), (4, .int b4)] [] h (some (.int r)) h') (b0 : Nat) (b1 : Int32) (b2 : Int32) (b3 : Int32) (b4 : Int32) (h : mH) (r : Int32) (h' : mH) (hf : f_M_together_73 rec19 b0 b1 b2 b3 b4 h = some (r, h')) : G sc y_M_together prog_10_method_62_code 6 (some .int) 6 150 73 [(0, .ref b0), (1, .int b1), (2, .int b2), (3, .int b3), (4, .int b4)] [] h (some (.int r)) h' := by
  unfold f_M_together_73 at hf
  refine g_iconst (pc := 73) (0 : Int32) dd_M_together_38.2.2.2.2.2.2.2.2.2.2.2.2.2.2.2.2.2.2.1 (by decide) ?_
  refine g_lv [0, 1, 2, 3, 4] rfl ?_
  exact t_M_together_74 rec19 hrec19 _ _ _ _ _ _ _ _ _  hf
def f_M_together_19b (rec19 : Nat → Int32 → Int32 → Int32 → Int32 → mH → Option (Int32 × mH)) (b0 : Nat) (b1 : Int32) (b2 : Int32) (b3 : Int32) (b4 : Int32) (h : mH) : Option (Int32 × mH) :=
  bd1 (gI h b0 8 2) fun x5 =>
  if ((1 : Int32) <<< (x5 &&& 31)) ≤ b4 then
    if b1 = 0 then
      some (b2, h)
    else
      some (b3, h)
  else
    bd1 (kC h b0 8) fun _ =>
    bd1 (f_M_startsRota b0 b4 h) fun h10 =>
    bd1 (gR h10 b0 8 0) fun x12 =>
    bd1 (aI h10 0 x12 (10 : Int32)) fun x14 =>
    if (b4 &&& (x14 ^^^ ((-1) : Int32))) = 0 then
      bd2 (f_M_bitsOf b4 h10) fun x18 h16 =>
      if x18 ≤ b2 then
        f_M_together_73 rec19 b0 b1 b2 b3 b4 h16
      else
        bd1 (kC h16 b0 8) fun _ =>
        bd2 (f_M_findRota b0 h16) fun x23 h21 =>
        if x23 = (1000000 : Int32) then
          f_M_together_73 rec19 b0 b1 b2 b3 b4 h21
        else
          f_M_together_74 rec19 b0 b1 b2 b3 b4 (1 : Int32) h21
    else
      f_M_together_73 rec19 b0 b1 b2 b3 b4 h10
set_option maxRecDepth 20000 in
theorem t_M_together_19b {sc : Nat × (Nat → Int32)} (rec19 : Nat → Int32 → Int32 → Int32 → Int32 → mH → Option (Int32 × mH)) (hrec19 : ∀ (b0 : Nat) (b1 : Int32) (b2 : Int32) (b3 : Int32) (b4 : Int32) (h : mH) (r : Int32) (h' : mH), rec19 b0 b1 b2 b3 b4 h = some (r, h') → G sc y_M_together prog_10_method_62_code 6 (some .int) 6 150 19 [(0, .ref b0), (1, .int b1), (2, .int b2), (3, .int b3), (4, .int b4)] [] h (some (.int r)) h') (b0 : Nat) (b1 : Int32) (b2 : Int32) (b3 : Int32) (b4 : Int32) (h : mH) (r : Int32) (h' : mH) (hf : f_M_together_19b rec19 b0 b1 b2 b3 b4 h = some (r, h')) : G sc y_M_together prog_10_method_62_code 6 (some .int) 6 150 19 [(0, .ref b0), (1, .int b1), (2, .int b2), (3, .int b3), (4, .int b4)] [] h (some (.int r)) h' := by
  unfold f_M_together_19b at hf
  refine g_iload (pc := 19) 4 dd_M_together_0.2.2.2.2.2.2.2.2.2.2.2.2.2.2.1 rfl ?_
  refine g_iconst (pc := 21) (1 : Int32) dd_M_together_0.2.2.2.2.2.2.2.2.2.2.2.2.2.2.2.1 (by decide) ?_
  refine g_aload_n (pc := 22) 0 dd_M_together_0.2.2.2.2.2.2.2.2.2.2.2.2.2.2.2.2.1 rfl rfl ?_
  obtain ⟨x5, e6, hf⟩ := bd1_e hf
  refine g_get (pc := 23) (ci := 8) (kk := 2) dd_M_together_0.2.2.2.2.2.2.2.2.2.2.2.2.2.2.2.2.2.1 rfl in_M (by decide) wd_940 (gI_spec e6) ?_
  refine g_ishl (pc := 26) dd_M_together_0.2.2.2.2.2.2.2.2.2.2.2.2.2.2.2.2.2.2.1 ?_
  refine g_icmpge (pc := 27) 109 dd_M_together_0.2.2.2.2.2.2.2.2.2.2.2.2.2.2.2.2.2.2.2.1 (by decide) (fun c27 => ?_) (fun c27 => ?_)
  · replace hf := (if_pos c27).symm.trans hf
    refine g_iload_n (pc := 109) 1 dd_M_together_86.2.2.2.2.2.2.2.2.2.2.2.1 rfl rfl ?_
    refine g_ifne (pc := 110) 117 dd_M_together_86.2.2.2.2.2.2.2.2.2.2.2.2.1 (by decide) (fun c7 => ?_) (fun c7 => ?_)
    · replace hf := (if_neg c7).symm.trans hf
      refine g_iload_n (pc := 117) 3 dd_M_together_86.2.2.2.2.2.2.2.2.2.2.2.2.2.2.2.1 rfl rfl ?_
      obtain ⟨rfl, rfl⟩ := ret2 hf
      exact g_iret (pc := 118) rfl dd_M_together_86.2.2.2.2.2.2.2.2.2.2.2.2.2.2.2.2
    · replace hf := (if_pos c7).symm.trans hf
      refine g_iload_n (pc := 113) 2 dd_M_together_86.2.2.2.2.2.2.2.2.2.2.2.2.2.1 rfl rfl ?_
      refine g_goto (pc := 114) 118 dd_M_together_86.2.2.2.2.2.2.2.2.2.2.2.2.2.2.1 (by decide) ?_
      obtain ⟨rfl, rfl⟩ := ret2 hf
      exact g_iret (pc := 118) rfl dd_M_together_86.2.2.2.2.2.2.2.2.2.2.2.2.2.2.2.2
  · replace hf := (if_neg c27).symm.trans hf
    refine g_aload_n (pc := 30) 0 dd_M_together_0.2.2.2.2.2.2.2.2.2.2.2.2.2.2.2.2.2.2.2.2.1 rfl rfl ?_
    refine g_iload (pc := 31) 4 dd_M_together_0.2.2.2.2.2.2.2.2.2.2.2.2.2.2.2.2.2.2.2.2.2.1 rfl ?_
    obtain ⟨u9, e8, hf⟩ := bd1_e hf
    obtain ⟨h10, e11, hf⟩ := bd1_e hf
    refine g_callV (pc := 33) (ci := 8) [.int b4] (site_of si_M_startsRota (by decide) (by decide)) wd_1257 wd_1259 wp_57 dd_M_together_0.2.2.2.2.2.2.2.2.2.2.2.2.2.2.2.2.2.2.2.2.2.2.1 rfl e8 (Nat.le_of_ble_eq_true rfl) (fun z => absurd z si_na_M_startsRota) (fun z => absurd z si_na_M_startsRota) (fun z => absurd z si_na_M_startsRota) (c_M_startsRota e11) rfl ?_
    refine g_st [] rfl ?_
    refine g_iload (pc := 36) 4 dd_M_together_0.2.2.2.2.2.2.2.2.2.2.2.2.2.2.2.2.2.2.2.2.2.2.2 rfl ?_
    refine g_aload_n (pc := 38) 0 dd_M_together_38.1 rfl rfl ?_
    obtain ⟨x12, e13, hf⟩ := bd1_e hf
    refine g_get (pc := 39) (ci := 8) (kk := 0) dd_M_together_38.2.1 rfl in_M (by decide) wd_938 (gR_spec e13) ?_
    refine g_bipush (pc := 42) (10 : Int32) dd_M_together_38.2.2.1 (by decide) ?_
    obtain ⟨x14, e15, hf⟩ := bd1_e hf
    refine g_iald (pc := 44) dd_M_together_38.2.2.2.1 e15 ?_
    refine g_iconst (pc := 45) ((-1) : Int32) dd_M_together_38.2.2.2.2.1 (by decide) ?_
    refine g_ixor (pc := 46) dd_M_together_38.2.2.2.2.2.1 ?_
    refine g_iand (pc := 47) dd_M_together_38.2.2.2.2.2.2.1 ?_
    refine g_ifne (pc := 48) 73 dd_M_together_38.2.2.2.2.2.2.2.1 (by decide) (fun c26 => ?_) (fun c26 => ?_)
    · replace hf := (if_neg c26).symm.trans hf
      refine g_lv [0, 1, 2, 3, 4] rfl ?_
      exact t_M_together_73 rec19 hrec19 _ _ _ _ _ _ _ _  hf
    · replace hf := (if_pos c26).symm.trans hf
      refine g_iload (pc := 51) 4 dd_M_together_38.2.2.2.2.2.2.2.2.1 rfl ?_
      obtain ⟨x18, h16, e17, hf⟩ := bd2_e hf
      refine g_callS (pc := 53) [.int b4] (site_of si_M_bitsOf (by decide) (by decide)) wd_1230 wd_1231 dd_M_together_38.2.2.2.2.2.2.2.2.2.1 (Nat.le_of_ble_eq_true rfl) (fun z => absurd z si_na_M_bitsOf) (fun z => absurd z si_na_M_bitsOf) (fun z => absurd z si_na_M_bitsOf) (c_M_bitsOf e17) rfl ?_
      refine g_st [.int x18] rfl ?_
      refine g_iload_n (pc := 56) 2 dd_M_together_38.2.2.2.2.2.2.2.2.2.2.1 rfl rfl ?_
      refine g_icmple (pc := 57) 73 dd_M_together_38.2.2.2.2.2.2.2.2.2.2.2.1 (by decide) (fun c25 => ?_) (fun c25 => ?_)
      · replace hf := (if_pos c25).symm.trans hf
        refine g_lv [0, 1, 2, 3, 4] rfl ?_
        exact t_M_together_73 rec19 hrec19 _ _ _ _ _ _ _ _  hf
      · replace hf := (if_neg c25).symm.trans hf
        refine g_aload_n (pc := 60) 0 dd_M_together_38.2.2.2.2.2.2.2.2.2.2.2.2.1 rfl rfl ?_
        obtain ⟨u20, e19, hf⟩ := bd1_e hf
        obtain ⟨x23, h21, e22, hf⟩ := bd2_e hf
        refine g_callV (pc := 61) (ci := 8) [] (site_of si_M_findRota (by decide) (by decide)) wd_1261 wd_1263 wp_58 dd_M_together_38.2.2.2.2.2.2.2.2.2.2.2.2.2.1 rfl e19 (Nat.le_of_ble_eq_true rfl) (fun z => absurd z si_na_M_findRota) (fun z => absurd z si_na_M_findRota) (fun z => absurd z si_na_M_findRota) (c_M_findRota e22) rfl ?_
        refine g_st [.int x23] rfl ?_
        refine g_ldc (pc := 64) (1000000 : Int32) dd_M_together_38.2.2.2.2.2.2.2.2.2.2.2.2.2.2.1 wd_1272 ?_
        refine g_icmpeq (pc := 66) 73 dd_M_together_38.2.2.2.2.2.2.2.2.2.2.2.2.2.2.2.1 (by decide) (fun c24 => ?_) (fun c24 => ?_)
        · replace hf := (if_pos c24).symm.trans hf
          refine g_lv [0, 1, 2, 3, 4] rfl ?_
          exact t_M_together_73 rec19 hrec19 _ _ _ _ _ _ _ _  hf
        · replace hf := (if_neg c24).symm.trans hf
          refine g_iconst (pc := 69) (1 : Int32) dd_M_together_38.2.2.2.2.2.2.2.2.2.2.2.2.2.2.2.2.1 (by decide) ?_
          refine g_goto (pc := 70) 74 dd_M_together_38.2.2.2.2.2.2.2.2.2.2.2.2.2.2.2.2.2.1 (by decide) ?_
          refine g_lv [0, 1, 2, 3, 4] rfl ?_
          exact t_M_together_74 rec19 hrec19 _ _ _ _ _ _ _ _ _  hf
def f_M_together_19  : Nat → Nat → Int32 → Int32 → Int32 → Int32 → mH → Option (Int32 × mH)
  | 0 => fun _ _ _ _ _ _ => none
  | n + 1 => f_M_together_19b  (f_M_together_19  n)
theorem t_M_together_19 {sc : Nat × (Nat → Int32)}  : ∀ (n : Nat) (b0 : Nat) (b1 : Int32) (b2 : Int32) (b3 : Int32) (b4 : Int32) (h : mH) (r : Int32) (h' : mH) (hf : f_M_together_19  n b0 b1 b2 b3 b4 h = some (r, h')), G sc y_M_together prog_10_method_62_code 6 (some .int) 6 150 19 [(0, .ref b0), (1, .int b1), (2, .int b2), (3, .int b3), (4, .int b4)] [] h (some (.int r)) h'
  | 0, _, _, _, _, _, _, _, _, hf => by cases hf
  | n + 1, _, _, _, _, _, _, _, _, hf => t_M_together_19b  (f_M_together_19  n) (t_M_together_19  n) _ _ _ _ _ _ _ _ hf
def f_M_together_0  (a0 : Nat) (a1 : Int32) (h : mH) : Option (Int32 × mH) :=
  bd2 (f_M_in a1.toInt64 (0 : Int64) (1 : Int64) h) fun x3 h1 =>
  if x3 = 0 then
    some (((-1) : Int32), h1)
  else
    f_M_together_19  FU a0 a1 ((-1) : Int32) (0 : Int32) (0 : Int32) h1
set_option maxRecDepth 20000 in
theorem t_M_together_0 {sc : Nat × (Nat → Int32)}  (a0 : Nat) (a1 : Int32) (h : mH) (r : Int32) (h' : mH) (hf : f_M_together_0  a0 a1 h = some (r, h')) : G sc y_M_together prog_10_method_62_code 6 (some .int) 6 150 0 [(0, .ref a0), (1, .int a1)] [] h (some (.int r)) h' := by
  unfold f_M_together_0 at hf
  refine g_iload_n (pc := 0) 1 dd_M_together_0.1 rfl rfl ?_
  refine g_i2l (pc := 1) dd_M_together_0.2.1 ?_
  refine g_lconst (pc := 2) (0 : Int64) dd_M_together_0.2.2.1 (by decide) ?_
  refine g_lconst (pc := 3) (1 : Int64) dd_M_together_0.2.2.2.1 (by decide) ?_
  obtain ⟨x3, h1, e2, hf⟩ := bd2_e hf
  refine g_callS (pc := 4) [.long a1.toInt64, .long (0 : Int64), .long (1 : Int64)] (site_of si_M_in (by decide) (by decide)) wd_1061 wd_1062 dd_M_together_0.2.2.2.2.1 (Nat.le_of_ble_eq_true rfl) (fun z => absurd z si_na_M_in) (fun z => absurd z si_na_M_in) (fun z => absurd z si_na_M_in) (c_M_in e2) rfl ?_
  refine g_st [.int x3] rfl ?_
  refine g_ifne (pc := 7) 12 dd_M_together_0.2.2.2.2.2.1 (by decide) (fun c4 => ?_) (fun c4 => ?_)
  · replace hf := (if_neg c4).symm.trans hf
    refine g_iconst (pc := 12) ((-1) : Int32) dd_M_together_0.2.2.2.2.2.2.2.2.1 (by decide) ?_
    refine g_istore_n (pc := 13) [(2, .int ((-1) : Int32)), (0, .ref a0), (1, .int a1)] dd_M_together_0.2.2.2.2.2.2.2.2.2.1 rfl (Nat.le_of_ble_eq_true rfl) rfl ?_
    refine g_iconst (pc := 14) (0 : Int32) dd_M_together_0.2.2.2.2.2.2.2.2.2.2.1 (by decide) ?_
    refine g_istore_n (pc := 15) [(3, .int (0 : Int32)), (2, .int ((-1) : Int32)), (0, .ref a0), (1, .int a1)] dd_M_together_0.2.2.2.2.2.2.2.2.2.2.2.1 rfl (Nat.le_of_ble_eq_true rfl) rfl ?_
    refine g_iconst (pc := 16) (0 : Int32) dd_M_together_0.2.2.2.2.2.2.2.2.2.2.2.2.1 (by decide) ?_
    refine g_istore (pc := 17) [(4, .int (0 : Int32)), (3, .int (0 : Int32)), (2, .int ((-1) : Int32)), (0, .ref a0), (1, .int a1)] dd_M_together_0.2.2.2.2.2.2.2.2.2.2.2.2.2.1 (Nat.le_of_ble_eq_true rfl) rfl ?_
    refine g_lv [3, 4, 2, 1, 0] rfl ?_
    exact t_M_together_19  FU _ _ _ _ _ _ _ _  hf
  · replace hf := (if_pos c4).symm.trans hf
    refine g_iconst (pc := 10) ((-1) : Int32) dd_M_together_0.2.2.2.2.2.2.1 (by decide) ?_
    obtain ⟨rfl, rfl⟩ := ret2 hf
    exact g_iret (pc := 11) rfl dd_M_together_0.2.2.2.2.2.2.2.1
def f_M_together (a0 : Nat) (a1 : Int32) (h : mH) : Option (Int32 × mH) := f_M_together_0 a0 a1 h
theorem c_M_together {sc : Nat × (Nat → Int32)} {a0 : Nat} {a1 : Int32} {h : mH} {r : Int32} {h' : mH} (hf : f_M_together a0 a1 h = some (r, h')) : MM sc y_M_together prog_10_method_62_code 6 (some .int) 6 150 [.ref a0, .int a1] h (some (.int r)) h' :=
  mm_of_G si_pn_M (Nat.le_of_ble_eq_true rfl) (t_M_together_0 _ _ _ _ _ hf)
/-! M triesOf (II)I -/
set_option maxRecDepth 100000 in
theorem dd_M_triesOf_0 : (decode prog_10_method_63_code 0 = .ok (.aload_n 0, 1)) ∧ (decode prog_10_method_63_code 1 = .ok (.iload_n 1, 1)) ∧ (decode prog_10_method_63_code 2 = .ok (.iload_n 2, 1)) ∧ (decode prog_10_method_63_code 3 = .ok (.invokevirtual 198, 3)) ∧ (decode prog_10_method_63_code 6 = .ok (.istore_n 3, 1)) ∧ (decode prog_10_method_63_code 7 = .ok (.iload_n 3, 1)) ∧ (decode prog_10_method_63_code 8 = .ok (.aload_n 0, 1)) ∧ (decode prog_10_method_63_code 9 = .ok (.iload_n 1, 1)) ∧ (decode prog_10_method_63_code 10 = .ok (.invokevirtual 201, 3)) ∧ (decode prog_10_method_63_code 13 = .ok (.if_icmp .ge 7, 3)) ∧ (decode prog_10_method_63_code 16 = .ok (.iload_n 3, 1)) ∧ (decode prog_10_method_63_code 17 = .ok (.goto 8, 3)) ∧ (decode prog_10_method_63_code 20 = .ok (.aload_n 0, 1)) ∧ (decode prog_10_method_63_code 21 = .ok (.iload_n 1, 1)) ∧ (decode prog_10_method_63_code 22 = .ok (.invokevirtual 201, 3)) ∧ (decode prog_10_method_63_code 25 = .ok (.ireturn, 1)) := by
  have h : List.drop 0 prog_10_method_63_code.data.toList = 0x2a :: _ := rfl
  refine ⟨zq_k_n 42 h rfl (zq_o_42 _), ?_⟩
  replace h := zq_nx1 (q := 1) h rfl
  refine ⟨zq_k_n 27 h rfl (zq_o_27 _), ?_⟩
  replace h := zq_nx1 (q := 2) h rfl
  refine ⟨zq_k_n 28 h rfl (zq_o_28 _), ?_⟩
  replace h := zq_nx1 (q := 3) h rfl
  refine ⟨zq_k_u2 182 (fun z => .invokevirtual z) 198 h rfl (zq_o_182 _) (by decide +kernel), ?_⟩
  replace h := zq_nx3 (q := 6) h rfl
  refine ⟨zq_k_n 62 h rfl (zq_o_62 _), ?_⟩
  replace h := zq_nx1 (q := 7) h rfl
  refine ⟨zq_k_n 29 h rfl (zq_o_29 _), ?_⟩
  replace h := zq_nx1 (q := 8) h rfl
  refine ⟨zq_k_n 42 h rfl (zq_o_42 _), ?_⟩
  replace h := zq_nx1 (q := 9) h rfl
  refine ⟨zq_k_n 27 h rfl (zq_o_27 _), ?_⟩
  replace h := zq_nx1 (q := 10) h rfl
  refine ⟨zq_k_u2 182 (fun z => .invokevirtual z) 201 h rfl (zq_o_182 _) (by decide +kernel), ?_⟩
  replace h := zq_nx3 (q := 13) h rfl
  refine ⟨zq_k_s2 162 (fun z => .if_icmp .ge z) 7 h rfl (zq_o_162 _) (by decide +kernel), ?_⟩
  replace h := zq_nx3 (q := 16) h rfl
  refine ⟨zq_k_n 29 h rfl (zq_o_29 _), ?_⟩
  replace h := zq_nx1 (q := 17) h rfl
  refine ⟨zq_k_s2 167 (fun z => .goto z) 8 h rfl (zq_o_167 _) (by decide +kernel), ?_⟩
  replace h := zq_nx3 (q := 20) h rfl
  refine ⟨zq_k_n 42 h rfl (zq_o_42 _), ?_⟩
  replace h := zq_nx1 (q := 21) h rfl
  refine ⟨zq_k_n 27 h rfl (zq_o_27 _), ?_⟩
  replace h := zq_nx1 (q := 22) h rfl
  refine ⟨zq_k_u2 182 (fun z => .invokevirtual z) 201 h rfl (zq_o_182 _) (by decide +kernel), ?_⟩
  replace h := zq_nx3 (q := 25) h rfl
  exact zq_k_n 172 h rfl (zq_o_172 _)
def f_M_triesOf_0  (a0 : Nat) (a1 : Int32) (a2 : Int32) (h : mH) : Option (Int32 × mH) :=
  bd1 (kC h a0 8) fun _ =>
  bd2 (f_M_roomOf a0 a1 a2 h) fun x5 h3 =>
  bd1 (kC h3 a0 8) fun _ =>
  bd2 (f_M_timeLeft a0 a1 h3) fun x10 h8 =>
  if x10 ≤ x5 then
    bd1 (kC h8 a0 8) fun _ =>
    bd2 (f_M_timeLeft a0 a1 h8) fun x15 h13 =>
    some (x15, h13)
  else
    some (x5, h8)
set_option maxRecDepth 20000 in
theorem t_M_triesOf_0 {sc : Nat × (Nat → Int32)}  (a0 : Nat) (a1 : Int32) (a2 : Int32) (h : mH) (r : Int32) (h' : mH) (hf : f_M_triesOf_0  a0 a1 a2 h = some (r, h')) : G sc y_M_triesOf prog_10_method_63_code 4 (some .int) 3 67 0 [(0, .ref a0), (1, .int a1), (2, .int a2)] [] h (some (.int r)) h' := by
  unfold f_M_triesOf_0 at hf
  refine g_aload_n (pc := 0) 0 dd_M_triesOf_0.1 rfl rfl ?_
  refine g_iload_n (pc := 1) 1 dd_M_triesOf_0.2.1 rfl rfl ?_
  refine g_iload_n (pc := 2) 2 dd_M_triesOf_0.2.2.1 rfl rfl ?_
  obtain ⟨u2, e1, hf⟩ := bd1_e hf
  obtain ⟨x5, h3, e4, hf⟩ := bd2_e hf
  refine g_callV (pc := 3) (ci := 8) [.int a1, .int a2] (site_of si_M_roomOf (by decide) (by decide)) wd_1168 wd_1170 wp_51 dd_M_triesOf_0.2.2.2.1 rfl e1 (Nat.le_of_ble_eq_true rfl) (fun z => absurd z si_na_M_roomOf) (fun z => absurd z si_na_M_roomOf) (fun z => absurd z si_na_M_roomOf) (c_M_roomOf e4) rfl ?_
  refine g_st [.int x5] rfl ?_
  refine g_istore_n (pc := 6) [(3, .int x5), (0, .ref a0), (1, .int a1), (2, .int a2)] dd_M_triesOf_0.2.2.2.2.1 rfl (Nat.le_of_ble_eq_true rfl) rfl ?_
  refine g_iload_n (pc := 7) 0 dd_M_triesOf_0.2.2.2.2.2.1 rfl rfl ?_
  refine g_aload_n (pc := 8) 1 dd_M_triesOf_0.2.2.2.2.2.2.1 rfl rfl ?_
  refine g_iload_n (pc := 9) 2 dd_M_triesOf_0.2.2.2.2.2.2.2.1 rfl rfl ?_
  obtain ⟨u7, e6, hf⟩ := bd1_e hf
  obtain ⟨x10, h8, e9, hf⟩ := bd2_e hf
  refine g_callV (pc := 10) (ci := 8) [.int a1] (site_of si_M_timeLeft (by decide) (by decide)) wd_1172 wd_1174 wp_52 dd_M_triesOf_0.2.2.2.2.2.2.2.2.1 rfl e6 (Nat.le_of_ble_eq_true rfl) (fun z => absurd z si_na_M_timeLeft) (fun z => absurd z si_na_M_timeLeft) (fun z => absurd z si_na_M_timeLeft) (c_M_timeLeft e9) rfl ?_
  refine g_st [.int x10, .int x5] rfl ?_
  refine g_icmpge (pc := 13) 20 dd_M_triesOf_0.2.2.2.2.2.2.2.2.2.1 (by decide) (fun c16 => ?_) (fun c16 => ?_)
  · replace hf := (if_pos c16).symm.trans hf
    refine g_aload_n (pc := 20) 1 dd_M_triesOf_0.2.2.2.2.2.2.2.2.2.2.2.2.1 rfl rfl ?_
    refine g_iload_n (pc := 21) 2 dd_M_triesOf_0.2.2.2.2.2.2.2.2.2.2.2.2.2.1 rfl rfl ?_
    obtain ⟨u12, e11, hf⟩ := bd1_e hf
    obtain ⟨x15, h13, e14, hf⟩ := bd2_e hf
    refine g_callV (pc := 22) (ci := 8) [.int a1] (site_of si_M_timeLeft (by decide) (by decide)) wd_1172 wd_1174 wp_52 dd_M_triesOf_0.2.2.2.2.2.2.2.2.2.2.2.2.2.2.1 rfl e11 (Nat.le_of_ble_eq_true rfl) (fun z => absurd z si_na_M_timeLeft) (fun z => absurd z si_na_M_timeLeft) (fun z => absurd z si_na_M_timeLeft) (c_M_timeLeft e14) rfl ?_
    refine g_st [.int x15] rfl ?_
    obtain ⟨rfl, rfl⟩ := ret2 hf
    exact g_iret (pc := 25) rfl dd_M_triesOf_0.2.2.2.2.2.2.2.2.2.2.2.2.2.2.2
  · replace hf := (if_neg c16).symm.trans hf
    refine g_iload_n (pc := 16) 0 dd_M_triesOf_0.2.2.2.2.2.2.2.2.2.2.1 rfl rfl ?_
    refine g_goto (pc := 17) 25 dd_M_triesOf_0.2.2.2.2.2.2.2.2.2.2.2.1 (by decide) ?_
    obtain ⟨rfl, rfl⟩ := ret2 hf
    exact g_iret (pc := 25) rfl dd_M_triesOf_0.2.2.2.2.2.2.2.2.2.2.2.2.2.2.2
def f_M_triesOf (a0 : Nat) (a1 : Int32) (a2 : Int32) (h : mH) : Option (Int32 × mH) := f_M_triesOf_0 a0 a1 a2 h
theorem c_M_triesOf {sc : Nat × (Nat → Int32)} {a0 : Nat} {a1 : Int32} {a2 : Int32} {h : mH} {r : Int32} {h' : mH} (hf : f_M_triesOf a0 a1 a2 h = some (r, h')) : MM sc y_M_triesOf prog_10_method_63_code 4 (some .int) 3 67 [.ref a0, .int a1, .int a2] h (some (.int r)) h' :=
  mm_of_G si_pn_M (Nat.le_of_ble_eq_true rfl) (t_M_triesOf_0 _ _ _ _ _ _ hf)
/-! M kill (II)I -/
set_option maxRecDepth 100000 in
theorem dd_M_kill_0 : (decode prog_10_method_64_code 0 = .ok (.aload_n 0, 1)) ∧ (decode prog_10_method_64_code 1 = .ok (.iload_n 1, 1)) ∧ (decode prog_10_method_64_code 2 = .ok (.invokevirtual 210, 3)) ∧ (decode prog_10_method_64_code 5 = .ok (.ifCond .eq 13, 3)) ∧ (decode prog_10_method_64_code 8 = .ok (.iload_n 2, 1)) ∧ (decode prog_10_method_64_code 9 = .ok (.i2l, 1)) ∧ (decode prog_10_method_64_code 10 = .ok (.lconst 0, 1)) ∧ (decode prog_10_method_64_code 11 = .ok (.lconst 1, 1)) ∧ (decode prog_10_method_64_code 12 = .ok (.invokestatic 114, 3)) ∧ (decode prog_10_method_64_code 15 = .ok (.ifCond .ne 5, 3)) ∧ (decode prog_10_method_64_code 18 = .ok (.iconst (-1), 1)) ∧ (decode prog_10_method_64_code 19 = .ok (.ireturn, 1)) ∧ (decode prog_10_method_64_code 20 = .ok (.aload_n 0, 1)) ∧ (decode prog_10_method_64_code 21 = .ok (.iload_n 1, 1)) ∧ (decode prog_10_method_64_code 22 = .ok (.invokevirtual 191, 3)) ∧ (decode prog_10_method_64_code 25 = .ok (.ifCond .ne 6, 3)) ∧ (decode prog_10_method_64_code 28 = .ok (.bipush (-2), 2)) ∧ (decode prog_10_method_64_code 30 = .ok (.ireturn, 1)) ∧ (decode prog_10_method_64_code 31 = .ok (.bipush (-4), 2)) ∧ (decode prog_10_method_64_code 33 = .ok (.istore_n 3, 1)) ∧ (decode prog_10_method_64_code 34 = .ok (.bipush (-4), 2)) ∧ (decode prog_10_method_64_code 36 = .ok (.istore 4, 2)) ∧ (decode prog_10_method_64_code 38 = .ok (.iconst 0, 1)) ∧ (decode prog_10_method_64_code 39 = .ok (.istore 5, 2)) := by
  have h : List.drop 0 prog_10_method_64_code.data.toList = 0x2a :: _ := rfl
  refine ⟨zq_k_n 42 h rfl (zq_o_42 _), ?_⟩
  replace h := zq_nx1 (q := 1) h rfl
  refine ⟨zq_k_n 27 h rfl (zq_o_27 _), ?_⟩
  replace h := zq_nx1 (q := 2) h rfl
  refine ⟨zq_k_u2 182 (fun z => .invokevirtual z) 210 h rfl (zq_o_182 _) (by decide +kernel), ?_⟩
  replace h := zq_nx3 (q := 5) h rfl
  refine ⟨zq_k_s2 153 (fun z => .ifCond .eq z) 13 h rfl (zq_o_153 _) (by decide +kernel), ?_⟩
  replace h := zq_nx3 (q := 8) h rfl
  refine ⟨zq_k_n 28 h rfl (zq_o_28 _), ?_⟩
  replace h := zq_nx1 (q := 9) h rfl
  refine ⟨zq_k_n 133 h rfl (zq_o_133 _), ?_⟩
  replace h := zq_nx1 (q := 10) h rfl
  refine ⟨zq_k_n 9 h rfl (zq_o_9 _), ?_⟩
  replace h := zq_nx1 (q := 11) h rfl
  refine ⟨zq_k_n 10 h rfl (zq_o_10 _), ?_⟩
  replace h := zq_nx1 (q := 12) h rfl
  refine ⟨zq_k_u2 184 (fun z => .invokestatic z) 114 h rfl (zq_o_184 _) (by decide +kernel), ?_⟩
  replace h := zq_nx3 (q := 15) h rfl
  refine ⟨zq_k_s2 154 (fun z => .ifCond .ne z) 5 h rfl (zq_o_154 _) (by decide +kernel), ?_⟩
  replace h := zq_nx3 (q := 18) h rfl
  refine ⟨zq_k_n 2 h rfl (zq_o_2 _), ?_⟩
  replace h := zq_nx1 (q := 19) h rfl
  refine ⟨zq_k_n 172 h rfl (zq_o_172 _), ?_⟩
  replace h := zq_nx1 (q := 20) h rfl
  refine ⟨zq_k_n 42 h rfl (zq_o_42 _), ?_⟩
  replace h := zq_nx1 (q := 21) h rfl
  refine ⟨zq_k_n 27 h rfl (zq_o_27 _), ?_⟩
  replace h := zq_nx1 (q := 22) h rfl
  refine ⟨zq_k_u2 182 (fun z => .invokevirtual z) 191 h rfl (zq_o_182 _) (by decide +kernel), ?_⟩
  replace h := zq_nx3 (q := 25) h rfl
  refine ⟨zq_k_s2 154 (fun z => .ifCond .ne z) 6 h rfl (zq_o_154 _) (by decide +kernel), ?_⟩
  replace h := zq_nx3 (q := 28) h rfl
  refine ⟨zq_k_s1 16 (fun z => .bipush z) (-2) h rfl (zq_o_16 _) (by decide +kernel), ?_⟩
  replace h := zq_nx2 (q := 30) h rfl
  refine ⟨zq_k_n 172 h rfl (zq_o_172 _), ?_⟩
  replace h := zq_nx1 (q := 31) h rfl
  refine ⟨zq_k_s1 16 (fun z => .bipush z) (-4) h rfl (zq_o_16 _) (by decide +kernel), ?_⟩
  replace h := zq_nx2 (q := 33) h rfl
  refine ⟨zq_k_n 62 h rfl (zq_o_62 _), ?_⟩
  replace h := zq_nx1 (q := 34) h rfl
  refine ⟨zq_k_s1 16 (fun z => .bipush z) (-4) h rfl (zq_o_16 _) (by decide +kernel), ?_⟩
  replace h := zq_nx2 (q := 36) h rfl
  refine ⟨zq_k_u1 54 (fun z => .istore z) 4 h rfl (zq_o_54 _) (by decide +kernel), ?_⟩
  replace h := zq_nx2 (q := 38) h rfl
  refine ⟨zq_k_n 3 h rfl (zq_o_3 _), ?_⟩
  replace h := zq_nx1 (q := 39) h rfl
  exact zq_k_u1 54 (fun z => .istore z) 5 h rfl (zq_o_54 _) (by decide +kernel)
set_option maxRecDepth 100000 in
theorem dd_M_kill_41 : (decode prog_10_method_64_code 41 = .ok (.iload 5, 2)) ∧ (decode prog_10_method_64_code 43 = .ok (.iconst 1, 1)) ∧ (decode prog_10_method_64_code 44 = .ok (.aload_n 0, 1)) ∧ (decode prog_10_method_64_code 45 = .ok (.getfield 109, 3)) ∧ (decode prog_10_method_64_code 48 = .ok (.ishl, 1)) ∧ (decode prog_10_method_64_code 49 = .ok (.if_icmp .ge 117, 3)) ∧ (decode prog_10_method_64_code 52 = .ok (.iconst 0, 1)) ∧ (decode prog_10_method_64_code 53 = .ok (.istore 6, 2)) ∧ (decode prog_10_method_64_code 55 = .ok (.iconst 0, 1)) ∧ (decode prog_10_method_64_code 56 = .ok (.istore 7, 2)) ∧ (decode prog_10_method_64_code 58 = .ok (.iload 7, 2)) ∧ (decode prog_10_method_64_code 60 = .ok (.aload_n 0, 1)) ∧ (decode prog_10_method_64_code 61 = .ok (.getfield 109, 3)) ∧ (decode prog_10_method_64_code 64 = .ok (.if_icmp .ge 35, 3)) ∧ (decode prog_10_method_64_code 67 = .ok (.iload 6, 2)) ∧ (decode prog_10_method_64_code 69 = .ok (.iload 5, 2)) ∧ (decode prog_10_method_64_code 71 = .ok (.iload 7, 2)) ∧ (decode prog_10_method_64_code 73 = .ok (.ishr, 1)) ∧ (decode prog_10_method_64_code 74 = .ok (.iconst 1, 1)) ∧ (decode prog_10_method_64_code 75 = .ok (.iand, 1)) ∧ (decode prog_10_method_64_code 76 = .ok (.ifCond .ne 13, 3)) ∧ (decode prog_10_method_64_code 79 = .ok (.aload_n 0, 1)) ∧ (decode prog_10_method_64_code 80 = .ok (.iload 7, 2)) ∧ (decode prog_10_method_64_code 82 = .ok (.iload_n 1, 1)) := by
  have h : List.drop 41 prog_10_method_64_code.data.toList = 0x15 :: _ := rfl
  refine ⟨zq_k_u1 21 (fun z => .iload z) 5 h rfl (zq_o_21 _) (by decide +kernel), ?_⟩
  replace h := zq_nx2 (q := 43) h rfl
  refine ⟨zq_k_n 4 h rfl (zq_o_4 _), ?_⟩
  replace h := zq_nx1 (q := 44) h rfl
  refine ⟨zq_k_n 42 h rfl (zq_o_42 _), ?_⟩
  replace h := zq_nx1 (q := 45) h rfl
  refine ⟨zq_k_u2 180 (fun z => .getfield z) 109 h rfl (zq_o_180 _) (by decide +kernel), ?_⟩
  replace h := zq_nx3 (q := 48) h rfl
  refine ⟨zq_k_n 120 h rfl (zq_o_120 _), ?_⟩
  replace h := zq_nx1 (q := 49) h rfl
  refine ⟨zq_k_s2 162 (fun z => .if_icmp .ge z) 117 h rfl (zq_o_162 _) (by decide +kernel), ?_⟩
  replace h := zq_nx3 (q := 52) h rfl
  refine ⟨zq_k_n 3 h rfl (zq_o_3 _), ?_⟩
  replace h := zq_nx1 (q := 53) h rfl
  refine ⟨zq_k_u1 54 (fun z => .istore z) 6 h rfl (zq_o_54 _) (by decide +kernel), ?_⟩
  replace h := zq_nx2 (q := 55) h rfl
  refine ⟨zq_k_n 3 h rfl (zq_o_3 _), ?_⟩
  replace h := zq_nx1 (q := 56) h rfl
  refine ⟨zq_k_u1 54 (fun z => .istore z) 7 h rfl (zq_o_54 _) (by decide +kernel), ?_⟩
  replace h := zq_nx2 (q := 58) h rfl
  refine ⟨zq_k_u1 21 (fun z => .iload z) 7 h rfl (zq_o_21 _) (by decide +kernel), ?_⟩
  replace h := zq_nx2 (q := 60) h rfl
  refine ⟨zq_k_n 42 h rfl (zq_o_42 _), ?_⟩
  replace h := zq_nx1 (q := 61) h rfl
  refine ⟨zq_k_u2 180 (fun z => .getfield z) 109 h rfl (zq_o_180 _) (by decide +kernel), ?_⟩
  replace h := zq_nx3 (q := 64) h rfl
  refine ⟨zq_k_s2 162 (fun z => .if_icmp .ge z) 35 h rfl (zq_o_162 _) (by decide +kernel), ?_⟩
  replace h := zq_nx3 (q := 67) h rfl
  refine ⟨zq_k_u1 21 (fun z => .iload z) 6 h rfl (zq_o_21 _) (by decide +kernel), ?_⟩
  replace h := zq_nx2 (q := 69) h rfl
  refine ⟨zq_k_u1 21 (fun z => .iload z) 5 h rfl (zq_o_21 _) (by decide +kernel), ?_⟩
  replace h := zq_nx2 (q := 71) h rfl
  refine ⟨zq_k_u1 21 (fun z => .iload z) 7 h rfl (zq_o_21 _) (by decide +kernel), ?_⟩
  replace h := zq_nx2 (q := 73) h rfl
  refine ⟨zq_k_n 122 h rfl (zq_o_122 _), ?_⟩
  replace h := zq_nx1 (q := 74) h rfl
  refine ⟨zq_k_n 4 h rfl (zq_o_4 _), ?_⟩
  replace h := zq_nx1 (q := 75) h rfl
  refine ⟨zq_k_n 126 h rfl (zq_o_126 _), ?_⟩
  replace h := zq_nx1 (q := 76) h rfl
  refine ⟨zq_k_s2 154 (fun z => .ifCond .ne z) 13 h rfl (zq_o_154 _) (by decide +kernel), ?_⟩
  replace h := zq_nx3 (q := 79) h rfl
  refine ⟨zq_k_n 42 h rfl (zq_o_42 _), ?_⟩
  replace h := zq_nx1 (q := 80) h rfl
  refine ⟨zq_k_u1 21 (fun z => .iload z) 7 h rfl (zq_o_21 _) (by decide +kernel), ?_⟩
  replace h := zq_nx2 (q := 82) h rfl
  exact zq_k_n 27 h rfl (zq_o_27 _)
set_option maxRecDepth 100000 in
theorem dd_M_kill_83 : (decode prog_10_method_64_code 83 = .ok (.invokevirtual 270, 3)) ∧ (decode prog_10_method_64_code 86 = .ok (.goto 4, 3)) ∧ (decode prog_10_method_64_code 89 = .ok (.iconst 0, 1)) ∧ (decode prog_10_method_64_code 90 = .ok (.iadd, 1)) ∧ (decode prog_10_method_64_code 91 = .ok (.istore 6, 2)) ∧ (decode prog_10_method_64_code 93 = .ok (.iinc 7 1, 3)) ∧ (decode prog_10_method_64_code 96 = .ok (.goto (-38), 3)) ∧ (decode prog_10_method_64_code 99 = .ok (.iload 6, 2)) ∧ (decode prog_10_method_64_code 101 = .ok (.aload_n 0, 1)) ∧ (decode prog_10_method_64_code 102 = .ok (.iload_n 1, 1)) ∧ (decode prog_10_method_64_code 103 = .ok (.invokevirtual 204, 3)) ∧ (decode prog_10_method_64_code 106 = .ok (.if_icmp .ge 22, 3)) ∧ (decode prog_10_method_64_code 109 = .ok (.iload_n 3, 1)) ∧ (decode prog_10_method_64_code 110 = .ok (.bipush (-4), 2)) ∧ (decode prog_10_method_64_code 112 = .ok (.if_icmp .eq 12, 3)) ∧ (decode prog_10_method_64_code 115 = .ok (.iload 5, 2)) ∧ (decode prog_10_method_64_code 117 = .ok (.invokestatic 237, 3)) ∧ (decode prog_10_method_64_code 120 = .ok (.iload_n 3, 1)) ∧ (decode prog_10_method_64_code 121 = .ok (.if_icmp .ge 7, 3)) ∧ (decode prog_10_method_64_code 124 = .ok (.iconst 1, 1)) ∧ (decode prog_10_method_64_code 125 = .ok (.goto 4, 3)) ∧ (decode prog_10_method_64_code 128 = .ok (.iconst 0, 1)) ∧ (decode prog_10_method_64_code 129 = .ok (.istore 7, 2)) ∧ (decode prog_10_method_64_code 131 = .ok (.iload 7, 2)) := by
  have h : List.drop 83 prog_10_method_64_code.data.toList = 0xb6 :: _ := rfl
  refine ⟨zq_k_u2 182 (fun z => .invokevirtual z) 270 h rfl (zq_o_182 _) (by decide +kernel), ?_⟩
  replace h := zq_nx3 (q := 86) h rfl
  refine ⟨zq_k_s2 167 (fun z => .goto z) 4 h rfl (zq_o_167 _) (by decide +kernel), ?_⟩
  replace h := zq_nx3 (q := 89) h rfl
  refine ⟨zq_k_n 3 h rfl (zq_o_3 _), ?_⟩
  replace h := zq_nx1 (q := 90) h rfl
  refine ⟨zq_k_n 96 h rfl (zq_o_96 _), ?_⟩
  replace h := zq_nx1 (q := 91) h rfl
  refine ⟨zq_k_u1 54 (fun z => .istore z) 6 h rfl (zq_o_54 _) (by decide +kernel), ?_⟩
  replace h := zq_nx2 (q := 93) h rfl
  refine ⟨zq_k_iinc 7 1 h rfl (zq_o_132 _) (by decide +kernel) (by decide +kernel), ?_⟩
  replace h := zq_nx3 (q := 96) h rfl
  refine ⟨zq_k_s2 167 (fun z => .goto z) (-38) h rfl (zq_o_167 _) (by decide +kernel), ?_⟩
  replace h := zq_nx3 (q := 99) h rfl
  refine ⟨zq_k_u1 21 (fun z => .iload z) 6 h rfl (zq_o_21 _) (by decide +kernel), ?_⟩
  replace h := zq_nx2 (q := 101) h rfl
  refine ⟨zq_k_n 42 h rfl (zq_o_42 _), ?_⟩
  replace h := zq_nx1 (q := 102) h rfl
  refine ⟨zq_k_n 27 h rfl (zq_o_27 _), ?_⟩
  replace h := zq_nx1 (q := 103) h rfl
  refine ⟨zq_k_u2 182 (fun z => .invokevirtual z) 204 h rfl (zq_o_182 _) (by decide +kernel), ?_⟩
  replace h := zq_nx3 (q := 106) h rfl
  refine ⟨zq_k_s2 162 (fun z => .if_icmp .ge z) 22 h rfl (zq_o_162 _) (by decide +kernel), ?_⟩
  replace h := zq_nx3 (q := 109) h rfl
  refine ⟨zq_k_n 29 h rfl (zq_o_29 _), ?_⟩
  replace h := zq_nx1 (q := 110) h rfl
  refine ⟨zq_k_s1 16 (fun z => .bipush z) (-4) h rfl (zq_o_16 _) (by decide +kernel), ?_⟩
  replace h := zq_nx2 (q := 112) h rfl
  refine ⟨zq_k_s2 159 (fun z => .if_icmp .eq z) 12 h rfl (zq_o_159 _) (by decide +kernel), ?_⟩
  replace h := zq_nx3 (q := 115) h rfl
  refine ⟨zq_k_u1 21 (fun z => .iload z) 5 h rfl (zq_o_21 _) (by decide +kernel), ?_⟩
  replace h := zq_nx2 (q := 117) h rfl
  refine ⟨zq_k_u2 184 (fun z => .invokestatic z) 237 h rfl (zq_o_184 _) (by decide +kernel), ?_⟩
  replace h := zq_nx3 (q := 120) h rfl
  refine ⟨zq_k_n 29 h rfl (zq_o_29 _), ?_⟩
  replace h := zq_nx1 (q := 121) h rfl
  refine ⟨zq_k_s2 162 (fun z => .if_icmp .ge z) 7 h rfl (zq_o_162 _) (by decide +kernel), ?_⟩
  replace h := zq_nx3 (q := 124) h rfl
  refine ⟨zq_k_n 4 h rfl (zq_o_4 _), ?_⟩
  replace h := zq_nx1 (q := 125) h rfl
  refine ⟨zq_k_s2 167 (fun z => .goto z) 4 h rfl (zq_o_167 _) (by decide +kernel), ?_⟩
  replace h := zq_nx3 (q := 128) h rfl
  refine ⟨zq_k_n 3 h rfl (zq_o_3 _), ?_⟩
  replace h := zq_nx1 (q := 129) h rfl
  refine ⟨zq_k_u1 54 (fun z => .istore z) 7 h rfl (zq_o_54 _) (by decide +kernel), ?_⟩
  replace h := zq_nx2 (q := 131) h rfl
  exact zq_k_u1 21 (fun z => .iload z) 7 h rfl (zq_o_21 _) (by decide +kernel)
set_option maxRecDepth 100000 in
theorem dd_M_kill_133 : (decode prog_10_method_64_code 133 = .ok (.ifCond .eq 8, 3)) ∧ (decode prog_10_method_64_code 136 = .ok (.iload 5, 2)) ∧ (decode prog_10_method_64_code 138 = .ok (.goto 5, 3)) ∧ (decode prog_10_method_64_code 141 = .ok (.iload 4, 2)) ∧ (decode prog_10_method_64_code 143 = .ok (.istore 4, 2)) ∧ (decode prog_10_method_64_code 145 = .ok (.iload 7, 2)) ∧ (decode prog_10_method_64_code 147 = .ok (.ifCond .eq 11, 3)) ∧ (decode prog_10_method_64_code 150 = .ok (.iload 5, 2)) ∧ (decode prog_10_method_64_code 152 = .ok (.invokestatic 237, 3)) ∧ (decode prog_10_method_64_code 155 = .ok (.goto 4, 3)) ∧ (decode prog_10_method_64_code 158 = .ok (.iload_n 3, 1)) ∧ (decode prog_10_method_64_code 159 = .ok (.istore_n 3, 1)) ∧ (decode prog_10_method_64_code 160 = .ok (.iinc 5 1, 3)) ∧ (decode prog_10_method_64_code 163 = .ok (.goto (-122), 3)) ∧ (decode prog_10_method_64_code 166 = .ok (.iload_n 2, 1)) ∧ (decode prog_10_method_64_code 167 = .ok (.ifCond .ne 7, 3)) ∧ (decode prog_10_method_64_code 170 = .ok (.iload_n 3, 1)) ∧ (decode prog_10_method_64_code 171 = .ok (.goto 5, 3)) ∧ (decode prog_10_method_64_code 174 = .ok (.iload 4, 2)) ∧ (decode prog_10_method_64_code 176 = .ok (.ireturn, 1)) := by
  have h : List.drop 133 prog_10_method_64_code.data.toList = 0x99 :: _ := rfl
  refine ⟨zq_k_s2 153 (fun z => .ifCond .eq z) 8 h rfl (zq_o_153 _) (by decide +kernel), ?_⟩
  replace h := zq_nx3 (q := 136) h rfl
  refine ⟨zq_k_u1 21 (fun z => .iload z) 5 h rfl (zq_o_21 _) (by decide +kernel), ?_⟩
  replace h := zq_nx2 (q := 138) h rfl
  refine ⟨zq_k_s2 167 (fun z => .goto z) 5 h rfl (zq_o_167 _) (by decide +kernel), ?_⟩
  replace h := zq_nx3 (q := 141) h rfl
  refine ⟨zq_k_u1 21 (fun z => .iload z) 4 h rfl (zq_o_21 _) (by decide +kernel), ?_⟩
  replace h := zq_nx2 (q := 143) h rfl
  refine ⟨zq_k_u1 54 (fun z => .istore z) 4 h rfl (zq_o_54 _) (by decide +kernel), ?_⟩
  replace h := zq_nx2 (q := 145) h rfl
  refine ⟨zq_k_u1 21 (fun z => .iload z) 7 h rfl (zq_o_21 _) (by decide +kernel), ?_⟩
  replace h := zq_nx2 (q := 147) h rfl
  refine ⟨zq_k_s2 153 (fun z => .ifCond .eq z) 11 h rfl (zq_o_153 _) (by decide +kernel), ?_⟩
  replace h := zq_nx3 (q := 150) h rfl
  refine ⟨zq_k_u1 21 (fun z => .iload z) 5 h rfl (zq_o_21 _) (by decide +kernel), ?_⟩
  replace h := zq_nx2 (q := 152) h rfl
  refine ⟨zq_k_u2 184 (fun z => .invokestatic z) 237 h rfl (zq_o_184 _) (by decide +kernel), ?_⟩
  replace h := zq_nx3 (q := 155) h rfl
  refine ⟨zq_k_s2 167 (fun z => .goto z) 4 h rfl (zq_o_167 _) (by decide +kernel), ?_⟩
  replace h := zq_nx3 (q := 158) h rfl
  refine ⟨zq_k_n 29 h rfl (zq_o_29 _), ?_⟩
  replace h := zq_nx1 (q := 159) h rfl
  refine ⟨zq_k_n 62 h rfl (zq_o_62 _), ?_⟩
  replace h := zq_nx1 (q := 160) h rfl
  refine ⟨zq_k_iinc 5 1 h rfl (zq_o_132 _) (by decide +kernel) (by decide +kernel), ?_⟩
  replace h := zq_nx3 (q := 163) h rfl
  refine ⟨zq_k_s2 167 (fun z => .goto z) (-122) h rfl (zq_o_167 _) (by decide +kernel), ?_⟩
  replace h := zq_nx3 (q := 166) h rfl
  refine ⟨zq_k_n 28 h rfl (zq_o_28 _), ?_⟩
  replace h := zq_nx1 (q := 167) h rfl
  refine ⟨zq_k_s2 154 (fun z => .ifCond .ne z) 7 h rfl (zq_o_154 _) (by decide +kernel), ?_⟩
  replace h := zq_nx3 (q := 170) h rfl
  refine ⟨zq_k_n 29 h rfl (zq_o_29 _), ?_⟩
  replace h := zq_nx1 (q := 171) h rfl
  refine ⟨zq_k_s2 167 (fun z => .goto z) 5 h rfl (zq_o_167 _) (by decide +kernel), ?_⟩
  replace h := zq_nx3 (q := 174) h rfl
  refine ⟨zq_k_u1 21 (fun z => .iload z) 4 h rfl (zq_o_21 _) (by decide +kernel), ?_⟩
  replace h := zq_nx2 (q := 176) h rfl
  exact zq_k_n 172 h rfl (zq_o_172 _)
def f_M_kill_159 (rec41 : Nat → Int32 → Int32 → Int32 → Int32 → Int32 → mH → Option (Int32 × mH)) (b0 : Nat) (b1 : Int32) (b2 : Int32) (b4 : Int32) (b5 : Int32) (s0 : Int32) (h : mH) : Option (Int32 × mH) :=
  rec41 b0 b1 b2 s0 b4 (b5 + (1 : Int32)) h
set_option maxRecDepth 20000 in
theorem t_M_kill_159 {sc : Nat × (Nat → Int32)} (rec41 : Nat → Int32 → Int32 → Int32 → Int32 → Int32 → mH → Option (Int32 × mH)) (hrec41 : ∀ (b0 : Nat) (b1 : Int32) (b2 : Int32) (b3 : Int32) (b4 : Int32) (b5 : Int32) (h : mH) (r : Int32) (h' : mH), rec41 b0 b1 b2 b3 b4 b5 h = some (r, h') → G sc y_M_kill prog_10_method_64_code 8 (some .int) 4 90 41 [(0, .ref b0), (1, .int b1), (2, .int b2), (3, .int b3), (4, .int b4), (5, .int b5)] [] h (some (.int r)) h') (b0 : Nat) (b1 : Int32) (b2 : Int32) (b4 : Int32) (b5 : Int32) (s0 : Int32) (h : mH) (r : Int32) (h' : mH) (hf : f_M_kill_159 rec41 b0 b1 b2 b4 b5 s0 h = some (r, h')) : G sc y_M_kill prog_10_method_64_code 8 (some .int) 4 90 159 [(0, .ref b0), (1, .int b1), (2, .int b2), (4, .int b4), (5, .int b5)] [.int s0] h (some (.int r)) h' := by
  unfold f_M_kill_159 at hf
  refine g_istore_n (pc := 159) [(3, .int s0), (0, .ref b0), (1, .int b1), (2, .int b2), (4, .int b4), (5, .int b5)] dd_M_kill_133.2.2.2.2.2.2.2.2.2.2.2.1 rfl (Nat.le_of_ble_eq_true rfl) rfl ?_
  refine g_iinc (pc := 160) 5 (b5 + (1 : Int32)) [(5, .int (b5 + (1 : Int32))), (3, .int s0), (0, .ref b0), (1, .int b1), (2, .int b2), (4, .int b4)] dd_M_kill_133.2.2.2.2.2.2.2.2.2.2.2.2.1 rfl rfl (Nat.le_of_ble_eq_true rfl) rfl ?_
  refine g_goto (pc := 163) 41 dd_M_kill_133.2.2.2.2.2.2.2.2.2.2.2.2.2.1 (by decide) ?_
  refine g_lv [2, 3, 4, 1, 5, 0] rfl ?_
  exact hrec41 _ _ _ _ _ _ _ _ _  hf
def f_M_kill_143 (rec41 : Nat → Int32 → Int32 → Int32 → Int32 → Int32 → mH → Option (Int32 × mH)) (b0 : Nat) (b1 : Int32) (b2 : Int32) (b3 : Int32) (b5 : Int32) (b7 : Int32) (s0 : Int32) (h : mH) : Option (Int32 × mH) :=
  if b7 = 0 then
    f_M_kill_159 rec41 b0 b1 b2 s0 b5 b3 h
  else
    bd2 (f_M_bitsOf b5 h) fun x44 h42 =>
    f_M_kill_159 rec41 b0 b1 b2 s0 b5 x44 h42
set_option maxRecDepth 20000 in
theorem t_M_kill_143 {sc : Nat × (Nat → Int32)} (rec41 : Nat → Int32 → Int32 → Int32 → Int32 → Int32 → mH → Option (Int32 × mH)) (hrec41 : ∀ (b0 : Nat) (b1 : Int32) (b2 : Int32) (b3 : Int32) (b4 : Int32) (b5 : Int32) (h : mH) (r : Int32) (h' : mH), rec41 b0 b1 b2 b3 b4 b5 h = some (r, h') → G sc y_M_kill prog_10_method_64_code 8 (some .int) 4 90 41 [(0, .ref b0), (1, .int b1), (2, .int b2), (3, .int b3), (4, .int b4), (5, .int b5)] [] h (some (.int r)) h') (b0 : Nat) (b1 : Int32) (b2 : Int32) (b3 : Int32) (b5 : Int32) (b7 : Int32) (s0 : Int32) (h : mH) (r : Int32) (h' : mH) (hf : f_M_kill_143 rec41 b0 b1 b2 b3 b5 b7 s0 h = some (r, h')) : G sc y_M_kill prog_10_method_64_code 8 (some .int) 4 90 143 [(0, .ref b0), (1, .int b1), (2, .int b2), (3, .int b3), (5, .int b5), (7, .int b7)] [.int s0] h (some (.int r)) h' := by
  unfold f_M_kill_143 at hf
  refine g_istore (pc := 143) [(4, .int s0), (0, .ref b0), (1, .int b1), (2, .int b2), (3, .int b3), (5, .int b5), (7, .int b7)] dd_M_kill_133.2.2.2.2.1 (Nat.le_of_ble_eq_true rfl) rfl ?_
  refine g_iload (pc := 145) 6 dd_M_kill_133.2.2.2.2.2.1 rfl ?_
  refine g_ifeq (pc := 147) 158 dd_M_kill_133.2.2.2.2.2.2.1 (by decide) (fun c45 => ?_) (fun c45 => ?_)
  · replace hf := (if_pos c45).symm.trans hf
    refine g_iload_n (pc := 158) 4 dd_M_kill_133.2.2.2.2.2.2.2.2.2.2.1 rfl rfl ?_
    refine g_lv [1, 2, 3, 0, 5] rfl ?_
    exact t_M_kill_159 rec41 hrec41 _ _ _ _ _ _ _ _ _  hf
  · replace hf := (if_neg c45).symm.trans hf
    refine g_iload (pc := 150) 5 dd_M_kill_133.2.2.2.2.2.2.2.1 rfl ?_
    obtain ⟨x44, h42, e43, hf⟩ := bd2_e hf
    refine g_callS (pc := 152) [.int b5] (site_of si_M_bitsOf (by decide) (by decide)) wd_1230 wd_1231 dd_M_kill_133.2.2.2.2.2.2.2.2.1 (Nat.le_of_ble_eq_true rfl) (fun z => absurd z si_na_M_bitsOf) (fun z => absurd z si_na_M_bitsOf) (fun z => absurd z si_na_M_bitsOf) (c_M_bitsOf e43) rfl ?_
    refine g_st [.int x44] rfl ?_
    refine g_goto (pc := 155) 159 dd_M_kill_133.2.2.2.2.2.2.2.2.2.1 (by decide) ?_
    refine g_lv [1, 2, 3, 0, 5] rfl ?_
    exact t_M_kill_159 rec41 hrec41 _ _ _ _ _ _ _ _ _  hf
def f_M_kill_129 (rec41 : Nat → Int32 → Int32 → Int32 → Int32 → Int32 → mH → Option (Int32 × mH)) (b0 : Nat) (b1 : Int32) (b2 : Int32) (b3 : Int32) (b4 : Int32) (b5 : Int32) (s0 : Int32) (h : mH) : Option (Int32 × mH) :=
  if s0 = 0 then
    f_M_kill_143 rec41 b0 b1 b2 b3 b5 s0 b4 h
  else
    f_M_kill_143 rec41 b0 b1 b2 b3 b5 s0 b5 h
set_option maxRecDepth 20000 in
theorem t_M_kill_129 {sc : Nat × (Nat → Int32)} (rec41 : Nat → Int32 → Int32 → Int32 → Int32 → Int32 → mH → Option (Int32 × mH)) (hrec41 : ∀ (b0 : Nat) (b1 : Int32) (b2 : Int32) (b3 : Int32) (b4 : Int32) (b5 : Int32) (h : mH) (r : Int32) (h' : mH), rec41 b0 b1 b2 b3 b4 b5 h = some (r, h') → G sc y_M_kill prog_10_method_64_code 8 (some .int) 4 90 41 [(0, .ref b0), (1, .int b1), (2, .int b2), (3, .int b3), (4, .int b4), (5, .int b5)] [] h (some (.int r)) h') (b0 : Nat) (b1 : Int32) (b2 : Int32) (b3 : Int32) (b4 : Int32) (b5 : Int32) (s0 : Int32) (h : mH) (r : Int32) (h' : mH) (hf : f_M_kill_129 rec41 b0 b1 b2 b3 b4 b5 s0 h = some (r, h')) : G sc y_M_kill prog_10_method_64_code 8 (some .int) 4 90 129 [(0, .ref b0), (1, .int b1), (2, .int b2), (3, .int b3), (4, .int b4), (5, .int b5)] [.int s0] h (some (.int r)) h' := by
  unfold f_M_kill_129 at hf
  refine g_istore (pc := 129) [(7, .int s0), (0, .ref b0), (1, .int b1), (2, .int b2), (3, .int b3), (4, .int b4), (5, .int b5)] dd_M_kill_83.2.2.2.2.2.2.2.2.2.2.2.2.2.2.2.2.2.2.2.2.2.2.1 (Nat.le_of_ble_eq_true rfl) rfl ?_
  refine g_iload (pc := 131) 0 dd_M_kill_83.2.2.2.2.2.2.2.2.2.2.2.2.2.2.2.2.2.2.2.2.2.2.2 rfl ?_
  refine g_ifeq (pc := 133) 141 dd_M_kill_133.1 (by decide) (fun c41 => ?_) (fun c41 => ?_)
  · replace hf := (if_pos c41).symm.trans hf
    refine g_iload (pc := 141) 5 dd_M_kill_133.2.2.2.1 rfl ?_
    refine g_lv [1, 2, 3, 4, 6, 0] rfl ?_
    exact t_M_kill_143 rec41 hrec41 _ _ _ _ _ _ _ _ _ _  hf
  · replace hf := (if_neg c41).symm.trans hf
    refine g_iload (pc := 136) 6 dd_M_kill_133.2.1 rfl ?_
    refine g_goto (pc := 138) 143 dd_M_kill_133.2.2.1 (by decide) ?_
    refine g_lv [1, 2, 3, 4, 6, 0] rfl ?_
    exact t_M_kill_143 rec41 hrec41 _ _ _ _ _ _ _ _ _ _  hf
def f_M_kill_128 (rec41 : Nat → Int32 → Int32 → Int32 → Int32 → Int32 → mH → Option (Int32 × mH)) (b0 : Nat) (b1 : Int32) (b2 : Int32) (b3 : Int32) (b4 : Int32) (b5 : Int32) (h : mH) : Option (Int32 × mH) :=
  f_M_kill_129 rec41 b0 b1 b2 b3 b4 b5 (0 : Int32) h
set_option maxRecDepth 20000 in
theorem t_M_kill_128 {sc : Nat × (Nat → Int32)} (rec41 : Nat → Int32 → Int32 → Int32 → Int32 → Int32 → mH → Option (Int32 × mH)) (hrec41 : ∀ (b0 : Nat) (b1 : Int32) (b2 : Int32) (b3 : Int32) (b4 : Int32) (b5 : Int32) (h : mH) (r : Int32) (h' : mH), rec41 b0 b1 b2 b3 b4 b5 h = some (r, h') → G sc y_M_kill prog_10_method_64_code 8 (some .int) 4 90 41 [(0, .ref b0), (1, .int b1), (2, .int b2), (3, .int b3), (4, .int b4), (5, .int b5)] [] h (some (.int r)) h') (b0 : Nat) (b1 : Int32) (b2 : Int32) (b3 : Int32) (b4 : Int32) (b5 : Int32) (h : mH) (r : Int32) (h' : mH) (hf : f_M_kill_128 rec41 b0 b1 b2 b3 b4 b5 h = some (r, h')) : G sc y_M_kill prog_10_method_64_code 8 (some .int) 4 90 128 [(0, .ref b0), (1, .int b1), (2, .int b2), (3, .int b3), (4, .int b4), (5, .int b5)] [] h (some (.int r)) h' := by
  unfold f_M_kill_128 at hf
  refine g_iconst (pc := 128) (0 : Int32) dd_M_kill_83.2.2.2.2.2.2.2.2.2.2.2.2.2.2.2.2.2.2.2.2.2.1 (by decide) ?_
  refine g_lv [0, 1, 2, 3, 4, 5] rfl ?_
  exact t_M_kill_129 rec41 hrec41 _ _ _ _ _ _ _ _ _ _  hf
def f_M_kill_124 (rec41 : Nat → Int32 → Int32 → Int32 → Int32 → Int32 → mH → Option (Int32 × mH)) (b0 : Nat) (b1 : Int32) (b2 : Int32) (b3 : Int32) (b4 : Int32) (b5 : Int32) (h : mH) : Option (Int32 × mH) :=
  f_M_kill_129 rec41 b0 b1 b2 b3 b4 b5 (1 : Int32) h
set_option maxRecDepth 20000 in
theorem t_M_kill_124 {sc : Nat × (Nat → Int32)} (rec41 : Nat → Int32 → Int32 → Int32 → Int32 → Int32 → mH → Option (Int32 × mH)) (hrec41 : ∀ (b0 : Nat) (b1 : Int32) (b2 : Int32) (b3 : Int32) (b4 : Int32) (b5 : Int32) (h : mH) (r : Int32) (h' : mH), rec41 b0 b1 b2 b3 b4 b5 h = some (r, h') → G sc y_M_kill prog_10_method_64_code 8 (some .int) 4 90 41 [(0, .ref b0), (1, .int b1), (2, .int b2), (3, .int b3), (4, .int b4), (5, .int b5)] [] h (some (.int r)) h') (b0 : Nat) (b1 : Int32) (b2 : Int32) (b3 : Int32) (b4 : Int32) (b5 : Int32) (h : mH) (r : Int32) (h' : mH) (hf : f_M_kill_124 rec41 b0 b1 b2 b3 b4 b5 h = some (r, h')) : G sc y_M_kill prog_10_method_64_code 8 (some .int) 4 90 124 [(0, .ref b0), (1, .int b1), (2, .int b2), (3, .int b3), (4, .int b4), (5, .int b5)] [] h (some (.int r)) h' := by
  unfold f_M_kill_124 at hf
  refine g_iconst (pc := 124) (1 : Int32) dd_M_kill_83.2.2.2.2.2.2.2.2.2.2.2.2.2.2.2.2.2.2.2.1 (by decide) ?_
  refine g_goto (pc := 125) 129 dd_M_kill_83.2.2.2.2.2.2.2.2.2.2.2.2.2.2.2.2.2.2.2.2.1 (by decide) ?_
  refine g_lv [0, 1, 2, 3, 4, 5] rfl ?_
  exact t_M_kill_129 rec41 hrec41 _ _ _ _ _ _ _ _ _ _  hf
def f_M_kill_90 (rec41 : Nat → Int32 → Int32 → Int32 → Int32 → Int32 → mH → Option (Int32 × mH)) (rec58 : Nat → Int32 → Int32 → Int32 → Int32 → Int32 → Int32 → Int32 → mH → Option (Int32 × mH)) (b0 : Nat) (b1 : Int32) (b2 : Int32) (b3 : Int32) (b4 : Int32) (b5 : Int32) (b7 : Int32) (s0 : Int32) (s1 : Int32) (h : mH) : Option (Int32 × mH) :=
  rec58 b0 b1 b2 b3 b4 b5 (s0 + s1) (b7 + (1 : Int32)) h
set_option maxRecDepth 20000 in
theorem t_M_kill_90 {sc : Nat × (Nat → Int32)} (rec41 : Nat → Int32 → Int32 → Int32 → Int32 → Int32 → mH → Option (Int32 × mH)) (hrec41 : ∀ (b0 : Nat) (b1 : Int32) (b2 : Int32) (b3 : Int32) (b4 : Int32) (b5 : Int32) (h : mH) (r : Int32) (h' : mH), rec41 b0 b1 b2 b3 b4 b5 h = some (r, h') → G sc y_M_kill prog_10_method_64_code 8 (some .int) 4 90 41 [(0, .ref b0), (1, .int b1), (2, .int b2), (3, .int b3), (4, .int b4), (5, .int b5)] [] h (some (.int r)) h') (rec58 : Nat → Int32 → Int32 → Int32 → Int32 → Int32 → Int32 → Int32 → mH → Option (Int32 × mH)) (hrec58 : ∀ (b0 : Nat) (b1 : Int32) (b2 : Int32) (b3 : Int32) (b4 : Int32) (b5 : Int32) (b6 : Int32) (b7 : Int32) (h : mH) (r : Int32) (h' : mH), rec58 b0 b1 b2 b3 b4 b5 b6 b7 h = some (r, h') → G sc y_M_kill prog_10_method_64_code 8 (some .int) 4 90 58 [(0, .ref b0), (1, .int b1), (2, .int b2), (3, .int b3), (4, .int b4), (5, .int b5), (6, .int b6), (7, .int b7)] [] h (some (.int r)) h') (b0 : Nat) (b1 : Int32) (b2 : Int32) (b3 : Int32) (b4 : Int32) (b5 : Int32) (b7 : Int32) (s0 : Int32) (s1 : Int32) (h : mH) (r : Int32) (h' : mH) (hf : f_M_kill_90 rec41 rec58 b0 b1 b2 b3 b4 b5 b7 s0 s1 h = some (r, h')) : G sc y_M_kill prog_10_method_64_code 8 (some .int) 4 90 90 [(0, .ref b0), (1, .int b1), (2, .int b2), (3, .int b3), (4, .int b4), (5, .int b5), (7, .int b7)] [.int s1, .int s0] h (some (.int r)) h' := by
  unfold f_M_kill_90 at hf
  refine g_iadd (pc := 90) dd_M_kill_83.2.2.2.1 ?_
  refine g_istore (pc := 91) [(6, .int (s0 + s1)), (0, .ref b0), (1, .int b1), (2, .int b2), (3, .int b3), (4, .int b4), (5, .int b5), (7, .int b7)] dd_M_kill_83.2.2.2.2.1 (Nat.le_of_ble_eq_true rfl) rfl ?_
  refine g_iinc (pc := 93) 7 (b7 + (1 : Int32)) [(7, .int (b7 + (1 : Int32))), (6, .int (s0 + s1)), (0, .ref b0), (1, .int b1), (2, .int b2), (3, .int b3), (4, .int b4), (5, .int b5)] dd_M_kill_83.2.2.2.2.2.1 rfl rfl (Nat.le_of_ble_eq_true rfl) rfl ?_
  refine g_goto (pc := 96) 58 dd_M_kill_83.2.2.2.2.2.2.1 (by decide) ?_
  refine g_lv [2, 3, 4, 5, 6, 7, 1, 0] rfl ?_
  exact hrec58 _ _ _ _ _ _ _ _ _ _ _  hf
def f_M_kill_58b (rec41 : Nat → Int32 → Int32 → Int32 → Int32 → Int32 → mH → Option (Int32 × mH)) (rec58 : Nat → Int32 → Int32 → Int32 → Int32 → Int32 → Int32 → Int32 → mH → Option (Int32 × mH)) (b0 : Nat) (b1 : Int32) (b2 : Int32) (b3 : Int32) (b4 : Int32) (b5 : Int32) (b6 : Int32) (b7 : Int32) (h : mH) : Option (Int32 × mH) :=
  bd1 (gI h b0 8 3) fun x21 =>
  if x21 ≤ b7 then
    bd1 (kC h b0 8) fun _ =>
    bd2 (f_M_needOf b0 b1 h) fun x27 h25 =>
    if x27 ≤ b6 then
      f_M_kill_128 rec41 b0 b1 b2 b3 b4 b5 h25
    else
      if b3 = ((-4) : Int32) then
        f_M_kill_124 rec41 b0 b1 b2 b3 b4 b5 h25
      else
        bd2 (f_M_bitsOf b5 h25) fun x30 h28 =>
        if b3 ≤ x30 then
          f_M_kill_128 rec41 b0 b1 b2 b3 b4 b5 h28
        else
          f_M_kill_124 rec41 b0 b1 b2 b3 b4 b5 h28
  else
    if ((b5 >>> (b7 &&& 31)) &&& (1 : Int32)) = 0 then
      bd1 (kC h b0 8) fun _ =>
      bd2 (f_M_triesOf b0 b7 b1 h) fun x38 h36 =>
      f_M_kill_90 rec41 rec58 b0 b1 b2 b3 b4 b5 b7 b6 x38 h36
    else
      f_M_kill_90 rec41 rec58 b0 b1 b2 b3 b4 b5 b7 b6 (0 : Int32) h
set_option maxRecDepth 20000 in
theorem t_M_kill_58b {sc : Nat × (Nat → Int32)} (rec41 : Nat → Int32 → Int32 → Int32 → Int32 → Int32 → mH → Option (Int32 × mH)) (hrec41 : ∀ (b0 : Nat) (b1 : Int32) (b2 : Int32) (b3 : Int32) (b4 : Int32) (b5 : Int32) (h : mH) (r : Int32) (h' : mH), rec41 b0 b1 b2 b3 b4 b5 h = some (r, h') → G sc y_M_kill prog_10_method_64_code 8 (some .int) 4 90 41 [(0, .ref b0), (1, .int b1), (2, .int b2), (3, .int b3), (4, .int b4), (5, .int b5)] [] h (some (.int r)) h') (rec58 : Nat → Int32 → Int32 → Int32 → Int32 → Int32 → Int32 → Int32 → mH → Option (Int32 × mH)) (hrec58 : ∀ (b0 : Nat) (b1 : Int32) (b2 : Int32) (b3 : Int32) (b4 : Int32) (b5 : Int32) (b6 : Int32) (b7 : Int32) (h : mH) (r : Int32) (h' : mH), rec58 b0 b1 b2 b3 b4 b5 b6 b7 h = some (r, h') → G sc y_M_kill prog_10_method_64_code 8 (some .int) 4 90 58 [(0, .ref b0), (1, .int b1), (2, .int b2), (3, .int b3), (4, .int b4), (5, .int b5), (6, .int b6), (7, .int b7)] [] h (some (.int r)) h') (b0 : Nat) (b1 : Int32) (b2 : Int32) (b3 : Int32) (b4 : Int32) (b5 : Int32) (b6 : Int32) (b7 : Int32) (h : mH) (r : Int32) (h' : mH) (hf : f_M_kill_58b rec41 rec58 b0 b1 b2 b3 b4 b5 b6 b7 h = some (r, h')) : G sc y_M_kill prog_10_method_64_code 8 (some .int) 4 90 58 [(0, .ref b0), (1, .int b1), (2, .int b2), (3, .int b3), (4, .int b4), (5, .int b5), (6, .int b6), (7, .int b7)] [] h (some (.int r)) h' := by
  unfold f_M_kill_58b at hf
  refine g_iload (pc := 58) 7 dd_M_kill_41.2.2.2.2.2.2.2.2.2.2.1 rfl ?_
  refine g_aload_n (pc := 60) 0 dd_M_kill_41.2.2.2.2.2.2.2.2.2.2.2.1 rfl rfl ?_
  obtain ⟨x21, e22, hf⟩ := bd1_e hf
  refine g_get (pc := 61) (ci := 8) (kk := 3) dd_M_kill_41.2.2.2.2.2.2.2.2.2.2.2.2.1 rfl in_M (by decide) wd_941 (gI_spec e22) ?_
  refine g_icmpge (pc := 64) 99 dd_M_kill_41.2.2.2.2.2.2.2.2.2.2.2.2.2.1 (by decide) (fun c40 => ?_) (fun c40 => ?_)
  · replace hf := (if_pos c40).symm.trans hf
    refine g_iload (pc := 99) 6 dd_M_kill_83.2.2.2.2.2.2.2.1 rfl ?_
    refine g_aload_n (pc := 101) 0 dd_M_kill_83.2.2.2.2.2.2.2.2.1 rfl rfl ?_
    refine g_iload_n (pc := 102) 1 dd_M_kill_83.2.2.2.2.2.2.2.2.2.1 rfl rfl ?_
    obtain ⟨u24, e23, hf⟩ := bd1_e hf
    obtain ⟨x27, h25, e26, hf⟩ := bd2_e hf
    refine g_callV (pc := 103) (ci := 8) [.int b1] (site_of si_M_needOf (by decide) (by decide)) wd_1140 wd_1142 wp_45 dd_M_kill_83.2.2.2.2.2.2.2.2.2.2.1 rfl e23 (Nat.le_of_ble_eq_true rfl) (fun z => absurd z si_na_M_needOf) (fun z => absurd z si_na_M_needOf) (fun z => absurd z si_na_M_needOf) (c_M_needOf e26) rfl ?_
    refine g_st [.int x27, .int b6] rfl ?_
    refine g_icmpge (pc := 106) 128 dd_M_kill_83.2.2.2.2.2.2.2.2.2.2.2.1 (by decide) (fun c33 => ?_) (fun c33 => ?_)
    · replace hf := (if_pos c33).symm.trans hf
      refine g_lv [0, 1, 2, 3, 4, 5] rfl ?_
      exact t_M_kill_128 rec41 hrec41 _ _ _ _ _ _ _ _ _  hf
    · replace hf := (if_neg c33).symm.trans hf
      refine g_iload_n (pc := 109) 3 dd_M_kill_83.2.2.2.2.2.2.2.2.2.2.2.2.1 rfl rfl ?_
      refine g_bipush (pc := 110) ((-4) : Int32) dd_M_kill_83.2.2.2.2.2.2.2.2.2.2.2.2.2.1 (by decide) ?_
      refine g_icmpeq (pc := 112) 124 dd_M_kill_83.2.2.2.2.2.2.2.2.2.2.2.2.2.2.1 (by decide) (fun c32 => ?_) (fun c32 => ?_)
      · replace hf := (if_pos c32).symm.trans hf
        refine g_lv [0, 1, 2, 3, 4, 5] rfl ?_
        exact t_M_kill_124 rec41 hrec41 _ _ _ _ _ _ _ _ _  hf
      · replace hf := (if_neg c32).symm.trans hf
        refine g_iload (pc := 115) 5 dd_M_kill_83.2.2.2.2.2.2.2.2.2.2.2.2.2.2.2.1 rfl ?_
        obtain ⟨x30, h28, e29, hf⟩ := bd2_e hf
        refine g_callS (pc := 117) [.int b5] (site_of si_M_bitsOf (by decide) (by decide)) wd_1230 wd_1231 dd_M_kill_83.2.2.2.2.2.2.2.2.2.2.2.2.2.2.2.2.1 (Nat.le_of_ble_eq_true rfl) (fun z => absurd z si_na_M_bitsOf) (fun z => absurd z si_na_M_bitsOf) (fun z => absurd z si_na_M_bitsOf) (c_M_bitsOf e29) rfl ?_
        refine g_st [.int x30] rfl ?_
        refine g_iload_n (pc := 120) 3 dd_M_kill_83.2.2.2.2.2.2.2.2.2.2.2.2.2.2.2.2.2.1 rfl rfl ?_
        refine g_icmpge (pc := 121) 128 dd_M_kill_83.2.2.2.2.2.2.2.2.2.2.2.2.2.2.2.2.2.2.1 (by decide) (fun c31 => ?_) (fun c31 => ?_)
        · replace hf := (if_pos c31).symm.trans hf
          refine g_lv [0, 1, 2, 3, 4, 5] rfl ?_
          exact t_M_kill_128 rec41 hrec41 _ _ _ _ _ _ _ _ _  hf
        · replace hf := (if_neg c31).symm.trans hf
          refine g_lv [0, 1, 2, 3, 4, 5] rfl ?_
          exact t_M_kill_124 rec41 hrec41 _ _ _ _ _ _ _ _ _  hf
  · replace hf := (if_neg c40).symm.trans hf
    refine g_iload (pc := 67) 6 dd_M_kill_41.2.2.2.2.2.2.2.2.2.2.2.2.2.2.1 rfl ?_
    refine g_iload (pc := 69) 5 dd_M_kill_41.2.2.2.2.2.2.2.2.2.2.2.2.2.2.2.1 rfl ?_
    refine g_iload (pc := 71) 7 dd_M_kill_41.2.2.2.2.2.2.2.2.2.2.2.2.2.2.2.2.1 rfl ?_
    refine g_ishr (pc := 73) dd_M_kill_41.2.2.2.2.2.2.2.2.2.2.2.2.2.2.2.2.2.1 ?_
    refine g_iconst (pc := 74) (1 : Int32) dd_M_kill_41.2.2.2.2.2.2.2.2.2.2.2.2.2.2.2.2.2.2.1 (by decide) ?_
    refine g_iand (pc := 75) dd_M_kill_41.2.2.2.2.2.2.2.2.2.2.2.2.2.2.2.2.2.2.2.1 ?_
    refine g_ifne (pc := 76) 89 dd_M_kill_41.2.2.2.2.2.2.2.2.2.2.2.2.2.2.2.2.2.2.2.2.1 (by decide) (fun c39 => ?_) (fun c39 => ?_)
    · replace hf := (if_neg c39).symm.trans hf
      refine g_iconst (pc := 89) (0 : Int32) dd_M_kill_83.2.2.1 (by decide) ?_
      refine g_lv [0, 1, 2, 3, 4, 5, 7] rfl ?_
      exact t_M_kill_90 rec41 hrec41 rec58 hrec58 _ _ _ _ _ _ _ _ _ _ _ _  hf
    · replace hf := (if_pos c39).symm.trans hf
      refine g_aload_n (pc := 79) 0 dd_M_kill_41.2.2.2.2.2.2.2.2.2.2.2.2.2.2.2.2.2.2.2.2.2.1 rfl rfl ?_
      refine g_iload (pc := 80) 7 dd_M_kill_41.2.2.2.2.2.2.2.2.2.2.2.2.2.2.2.2.2.2.2.2.2.2.1 rfl ?_
      refine g_iload_n (pc := 82) 1 dd_M_kill_41.2.2.2.2.2.2.2.2.2.2.2.2.2.2.2.2.2.2.2.2.2.2.2 rfl rfl ?_
      obtain ⟨u35, e34, hf⟩ := bd1_e hf
      obtain ⟨x38, h36, e37, hf⟩ := bd2_e hf
      refine g_callV (pc := 83) (ci := 8) [.int b7, .int b1] (site_of si_M_triesOf (by decide) (by decide)) wd_1298 wd_1300 wp_63 dd_M_kill_83.1 rfl e34 (Nat.le_of_ble_eq_true rfl) (fun z => absurd z si_na_M_triesOf) (fun z => absurd z si_na_M_triesOf) (fun z => absurd z si_na_M_triesOf) (c_M_triesOf e37) rfl ?_
      refine g_st [.int x38, .int b6] rfl ?_
      refine g_goto (pc := 86) 90 dd_M_kill_83.2.1 (by decide) ?_
      refine g_lv [0, 1, 2, 3, 4, 5, 7] rfl ?_
      exact t_M_kill_90 rec41 hrec41 rec58 hrec58 _ _ _ _ _ _ _ _ _ _ _ _  hf
def f_M_kill_58 (rec41 : Nat → Int32 → Int32 → Int32 → Int32 → Int32 → mH → Option (Int32 × mH)) : Nat → Nat → Int32 → Int32 → Int32 → Int32 → Int32 → Int32 → Int32 → mH → Option (Int32 × mH)
  | 0 => fun _ _ _ _ _ _ _ _ _ => none
  | n + 1 => f_M_kill_58b rec41 (f_M_kill_58 rec41 n)
theorem t_M_kill_58 {sc : Nat × (Nat → Int32)} (rec41 : Nat → Int32 → Int32 → Int32 → Int32 → Int32 → mH → Option (Int32 × mH)) (hrec41 : ∀ (b0 : Nat) (b1 : Int32) (b2 : Int32) (b3 : Int32) (b4 : Int32) (b5 : Int32) (h : mH) (r : Int32) (h' : mH), rec41 b0 b1 b2 b3 b4 b5 h = some (r, h') → G sc y_M_kill prog_10_method_64_code 8 (some .int) 4 90 41 [(0, .ref b0), (1, .int b1), (2, .int b2), (3, .int b3), (4, .int b4), (5, .int b5)] [] h (some (.int r)) h') : ∀ (n : Nat) (b0 : Nat) (b1 : Int32) (b2 : Int32) (b3 : Int32) (b4 : Int32) (b5 : Int32) (b6 : Int32) (b7 : Int32) (h : mH) (r : Int32) (h' : mH) (hf : f_M_kill_58 rec41 n b0 b1 b2 b3 b4 b5 b6 b7 h = some (r, h')), G sc y_M_kill prog_10_method_64_code 8 (some .int) 4 90 58 [(0, .ref b0), (1, .int b1), (2, .int b2), (3, .int b3), (4, .int b4), (5, .int b5), (6, .int b6), (7, .int b7)] [] h (some (.int r)) h'
  | 0, _, _, _, _, _, _, _, _, _, _, _, hf => by cases hf
  | n + 1, _, _, _, _, _, _, _, _, _, _, _, hf => t_M_kill_58b rec41 hrec41 (f_M_kill_58 rec41 n) (t_M_kill_58 rec41 hrec41 n) _ _ _ _ _ _ _ _ _ _ _ hf
def f_M_kill_41b (rec41 : Nat → Int32 → Int32 → Int32 → Int32 → Int32 → mH → Option (Int32 × mH)) (b0 : Nat) (b1 : Int32) (b2 : Int32) (b3 : Int32) (b4 : Int32) (b5 : Int32) (h : mH) : Option (Int32 × mH) :=
  bd1 (gI h b0 8 3) fun x17 =>
  if ((1 : Int32) <<< (x17 &&& 31)) ≤ b5 then
    if b2 = 0 then
      some (b3, h)
    else
      some (b4, h)
  else
    f_M_kill_58 rec41 FU b0 b1 b2 b3 b4 b5 (0 : Int32) (0 : Int32) h
set_option maxRecDepth 20000 in
theorem t_M_kill_41b {sc : Nat × (Nat → Int32)} (rec41 : Nat → Int32 → Int32 → Int32 → Int32 → Int32 → mH → Option (Int32 × mH)) (hrec41 : ∀ (b0 : Nat) (b1 : Int32) (b2 : Int32) (b3 : Int32) (b4 : Int32) (b5 : Int32) (h : mH) (r : Int32) (h' : mH), rec41 b0 b1 b2 b3 b4 b5 h = some (r, h') → G sc y_M_kill prog_10_method_64_code 8 (some .int) 4 90 41 [(0, .ref b0), (1, .int b1), (2, .int b2), (3, .int b3), (4, .int b4), (5, .int b5)] [] h (some (.int r)) h') (b0 : Nat) (b1 : Int32) (b2 : Int32) (b3 : Int32) (b4 : Int32) (b5 : Int32) (h : mH) (r : Int32) (h' : mH) (hf : f_M_kill_41b rec41 b0 b1 b2 b3 b4 b5 h = some (r, h')) : G sc y_M_kill prog_10_method_64_code 8 (some .int) 4 90 41 [(0, .ref b0), (1, .int b1), (2, .int b2), (3, .int b3), (4, .int b4), (5, .int b5)] [] h (some (.int r)) h' := by
  unfold f_M_kill_41b at hf
  refine g_iload (pc := 41) 5 dd_M_kill_41.1 rfl ?_
  refine g_iconst (pc := 43) (1 : Int32) dd_M_kill_41.2.1 (by decide) ?_
  refine g_aload_n (pc := 44) 0 dd_M_kill_41.2.2.1 rfl rfl ?_
  obtain ⟨x17, e18, hf⟩ := bd1_e hf
  refine g_get (pc := 45) (ci := 8) (kk := 3) dd_M_kill_41.2.2.2.1 rfl in_M (by decide) wd_941 (gI_spec e18) ?_
  refine g_ishl (pc := 48) dd_M_kill_41.2.2.2.2.1 ?_
  refine g_icmpge (pc := 49) 166 dd_M_kill_41.2.2.2.2.2.1 (by decide) (fun c20 => ?_) (fun c20 => ?_)
  · replace hf := (if_pos c20).symm.trans hf
    refine g_iload_n (pc := 166) 2 dd_M_kill_133.2.2.2.2.2.2.2.2.2.2.2.2.2.2.1 rfl rfl ?_
    refine g_ifne (pc := 167) 174 dd_M_kill_133.2.2.2.2.2.2.2.2.2.2.2.2.2.2.2.1 (by decide) (fun c19 => ?_) (fun c19 => ?_)
    · replace hf := (if_neg c19).symm.trans hf
      refine g_iload (pc := 174) 4 dd_M_kill_133.2.2.2.2.2.2.2.2.2.2.2.2.2.2.2.2.2.2.1 rfl ?_
      obtain ⟨rfl, rfl⟩ := ret2 hf
      exact g_iret (pc := 176) rfl dd_M_kill_133.2.2.2.2.2.2.2.2.2.2.2.2.2.2.2.2.2.2.2
    · replace hf := (if_pos c19).symm.trans hf
      refine g_iload_n (pc := 170) 3 dd_M_kill_133.2.2.2.2.2.2.2.2.2.2.2.2.2.2.2.2.1 rfl rfl ?_
      refine g_goto (pc := 171) 176 dd_M_kill_133.2.2.2.2.2.2.2.2.2.2.2.2.2.2.2.2.2.1 (by decide) ?_
      obtain ⟨rfl, rfl⟩ := ret2 hf
      exact g_iret (pc := 176) rfl dd_M_kill_133.2.2.2.2.2.2.2.2.2.2.2.2.2.2.2.2.2.2.2
  · replace hf := (if_neg c20).symm.trans hf
    refine g_iconst (pc := 52) (0 : Int32) dd_M_kill_41.2.2.2.2.2.2.1 (by decide) ?_
    refine g_istore (pc := 53) [(6, .int (0 : Int32)), (0, .ref b0), (1, .int b1), (2, .int b2), (3, .int b3), (4, .int b4), (5, .int b5)] dd_M_kill_41.2.2.2.2.2.2.2.1 (Nat.le_of_ble_eq_true rfl) rfl ?_
    refine g_iconst (pc := 55) (0 : Int32) dd_M_kill_41.2.2.2.2.2.2.2.2.1 (by decide) ?_
    refine g_istore (pc := 56) [(7, .int (0 : Int32)), (6, .int (0 : Int32)), (0, .ref b0), (1, .int b1), (2, .int b2), (3, .int b3), (4, .int b4), (5, .int b5)] dd_M_kill_41.2.2.2.2.2.2.2.2.2.1 (Nat.le_of_ble_eq_true rfl) rfl ?_
    refine g_lv [2, 3, 4, 5, 6, 7, 1, 0] rfl ?_
    exact t_M_kill_58 rec41 hrec41 FU _ _ _ _ _ _ _ _ _ _ _  hf
def f_M_kill_41  : Nat → Nat → Int32 → Int32 → Int32 → Int32 → Int32 → mH → Option (Int32 × mH)
  | 0 => fun _ _ _ _ _ _ _ => none
  | n + 1 => f_M_kill_41b  (f_M_kill_41  n)
theorem t_M_kill_41 {sc : Nat × (Nat → Int32)}  : ∀ (n : Nat) (b0 : Nat) (b1 : Int32) (b2 : Int32) (b3 : Int32) (b4 : Int32) (b5 : Int32) (h : mH) (r : Int32) (h' : mH) (hf : f_M_kill_41  n b0 b1 b2 b3 b4 b5 h = some (r, h')), G sc y_M_kill prog_10_method_64_code 8 (some .int) 4 90 41 [(0, .ref b0), (1, .int b1), (2, .int b2), (3, .int b3), (4, .int b4), (5, .int b5)] [] h (some (.int r)) h'
  | 0, _, _, _, _, _, _, _, _, _, hf => by cases hf
  | n + 1, _, _, _, _, _, _, _, _, _, hf => t_M_kill_41b  (f_M_kill_41  n) (t_M_kill_41  n) _ _ _ _ _ _ _ _ _ hf
def f_M_kill_18   (h : mH) : Option (Int32 × mH) :=
  some (((-1) : Int32), h)
set_option maxRecDepth 20000 in
theorem t_M_kill_18 {sc : Nat × (Nat → Int32)}   (h : mH) (r : Int32) (h' : mH) (hf : f_M_kill_18   h = some (r, h')) : G sc y_M_kill prog_10_method_64_code 8 (some .int) 4 90 18 [] [] h (some (.int r)) h' := by
  unfold f_M_kill_18 at hf
  refine g_iconst (pc := 18) ((-1) : Int32) dd_M_kill_0.2.2.2.2.2.2.2.2.2.2.1 (by decide) ?_
  obtain ⟨rfl, rfl⟩ := ret2 hf
  exact g_iret (pc := 19) rfl dd_M_kill_0.2.2.2.2.2.2.2.2.2.2.2.1
def f_M_kill_0  (a0 : Nat) (a1 : Int32) (a2 : Int32) (h : mH) : Option (Int32 × mH) :=
  bd1 (kC h a0 8) fun _ =>
  bd2 (f_M_isLaw a0 a1 h) fun x5 h3 =>
  if x5 = 0 then
    f_M_kill_18  h3
  else
    bd2 (f_M_in a2.toInt64 (0 : Int64) (1 : Int64) h3) fun x8 h6 =>
    if x8 = 0 then
      f_M_kill_18  h6
    else
      bd1 (kC h6 a0 8) fun _ =>
      bd2 (f_M_doesStand a0 a1 h6) fun x13 h11 =>
      if x13 = 0 then
        some (((-2) : Int32), h11)
      else
        f_M_kill_41  FU a0 a1 a2 ((-4) : Int32) ((-4) : Int32) (0 : Int32) h11
set_option maxRecDepth 20000 in
theorem t_M_kill_0 {sc : Nat × (Nat → Int32)}  (a0 : Nat) (a1 : Int32) (a2 : Int32) (h : mH) (r : Int32) (h' : mH) (hf : f_M_kill_0  a0 a1 a2 h = some (r, h')) : G sc y_M_kill prog_10_method_64_code 8 (some .int) 4 90 0 [(0, .ref a0), (1, .int a1), (2, .int a2)] [] h (some (.int r)) h' := by
  unfold f_M_kill_0 at hf
  refine g_aload_n (pc := 0) 0 dd_M_kill_0.1 rfl rfl ?_
  refine g_iload_n (pc := 1) 1 dd_M_kill_0.2.1 rfl rfl ?_
  obtain ⟨u2, e1, hf⟩ := bd1_e hf
  obtain ⟨x5, h3, e4, hf⟩ := bd2_e hf
  refine g_callV (pc := 2) (ci := 8) [.int a1] (site_of si_M_isLaw (by decide) (by decide)) wd_1136 wd_1138 wp_44 dd_M_kill_0.2.2.1 rfl e1 (Nat.le_of_ble_eq_true rfl) (fun z => absurd z si_na_M_isLaw) (fun z => absurd z si_na_M_isLaw) (fun z => absurd z si_na_M_isLaw) (c_M_isLaw e4) rfl ?_
  refine g_st [.int x5] rfl ?_
  refine g_ifeq (pc := 5) 18 dd_M_kill_0.2.2.2.1 (by decide) (fun c16 => ?_) (fun c16 => ?_)
  · replace hf := (if_pos c16).symm.trans hf
    refine g_lv [] rfl ?_
    exact t_M_kill_18  _ _ _  hf
  · replace hf := (if_neg c16).symm.trans hf
    refine g_iload_n (pc := 8) 2 dd_M_kill_0.2.2.2.2.1 rfl rfl ?_
    refine g_i2l (pc := 9) dd_M_kill_0.2.2.2.2.2.1 ?_
    refine g_lconst (pc := 10) (0 : Int64) dd_M_kill_0.2.2.2.2.2.2.1 (by decide) ?_
    refine g_lconst (pc := 11) (1 : Int64) dd_M_kill_0.2.2.2.2.2.2.2.1 (by decide) ?_
    obtain ⟨x8, h6, e7, hf⟩ := bd2_e hf
    refine g_callS (pc := 12) [.long a2.toInt64, .long (0 : Int64), .long (1 : Int64)] (site_of si_M_in (by decide) (by decide)) wd_1061 wd_1062 dd_M_kill_0.2.2.2.2.2.2.2.2.1 (Nat.le_of_ble_eq_true rfl) (fun z => absurd z si_na_M_in) (fun z => absurd z si_na_M_in) (fun z => absurd z si_na_M_in) (c_M_in e7) rfl ?_
    refine g_st [.int x8] rfl ?_
    refine g_ifne (pc := 15) 20 dd_M_kill_0.2.2.2.2.2.2.2.2.2.1 (by decide) (fun c15 => ?_) (fun c15 => ?_)
    · replace hf := (if_neg c15).symm.trans hf
      refine g_aload_n (pc := 20) 0 dd_M_kill_0.2.2.2.2.2.2.2.2.2.2.2.2.1 rfl rfl ?_
      refine g_iload_n (pc := 21) 1 dd_M_kill_0.2.2.2.2.2.2.2.2.2.2.2.2.2.1 rfl rfl ?_
      obtain ⟨u10, e9, hf⟩ := bd1_e hf
      obtain ⟨x13, h11, e12, hf⟩ := bd2_e hf
      refine g_callV (pc := 22) (ci := 8) [.int a1] (site_of si_M_doesStand (by decide) (by decide)) wd_1144 wd_1146 wp_46 dd_M_kill_0.2.2.2.2.2.2.2.2.2.2.2.2.2.2.1 rfl e9 (Nat.le_of_ble_eq_true rfl) (fun z => absurd z si_na_M_doesStand) (fun z => absurd z si_na_M_doesStand) (fun z => absurd z si_na_M_doesStand) (c_M_doesStand e12) rfl ?_
      refine g_st [.int x13] rfl ?_
      refine g_ifne (pc := 25) 31 dd_M_kill_0.2.2.2.2.2.2.2.2.2.2.2.2.2.2.2.1 (by decide) (fun c14 => ?_) (fun c14 => ?_)
      · replace hf := (if_neg c14).symm.trans hf
        refine g_bipush (pc := 31) ((-4) : Int32) dd_M_kill_0.2.2.2.2.2.2.2.2.2.2.2.2.2.2.2.2.2.2.1 (by decide) ?_
        refine g_istore_n (pc := 33) [(3, .int ((-4) : Int32)), (0, .ref a0), (1, .int a1), (2, .int a2)] dd_M_kill_0.2.2.2.2.2.2.2.2.2.2.2.2.2.2.2.2.2.2.2.1 rfl (Nat.le_of_ble_eq_true rfl) rfl ?_
        refine g_bipush (pc := 34) ((-4) : Int32) dd_M_kill_0.2.2.2.2.2.2.2.2.2.2.2.2.2.2.2.2.2.2.2.2.1 (by decide) ?_
        refine g_istore (pc := 36) [(4, .int ((-4) : Int32)), (3, .int ((-4) : Int32)), (0, .ref a0), (1, .int a1), (2, .int a2)] dd_M_kill_0.2.2.2.2.2.2.2.2.2.2.2.2.2.2.2.2.2.2.2.2.2.1 (Nat.le_of_ble_eq_true rfl) rfl ?_
        refine g_iconst (pc := 38) (0 : Int32) dd_M_kill_0.2.2.2.2.2.2.2.2.2.2.2.2.2.2.2.2.2.2.2.2.2.2.1 (by decide) ?_
        refine g_istore (pc := 39) [(5, .int (0 : Int32)), (4, .int ((-4) : Int32)), (3, .int ((-4) : Int32)), (0, .ref a0), (1, .int a1), (2, .int a2)] dd_M_kill_0.2.2.2.2.2.2.2.2.2.2.2.2.2.2.2.2.2.2.2.2.2.2.2 (Nat.le_of_ble_eq_true rfl) rfl ?_
        refine g_lv [3, 4, 5, 2, 1, 0] rfl ?_
        exact t_M_kill_41  FU _ _ _ _ _ _ _ _ _  hf
      · replace hf := (if_pos c14).symm.trans hf
        refine g_bipush (pc := 28) ((-2) : Int32) dd_M_kill_0.2.2.2.2.2.2.2.2.2.2.2.2.2.2.2.2.1 (by decide) ?_
        obtain ⟨rfl, rfl⟩ := ret2 hf
        exact g_iret (pc := 30) rfl dd_M_kill_0.2.2.2.2.2.2.2.2.2.2.2.2.2.2.2.2.2.1
    · replace hf := (if_pos c15).symm.trans hf
      refine g_lv [] rfl ?_
      exact t_M_kill_18  _ _ _  hf
def f_M_kill (a0 : Nat) (a1 : Int32) (a2 : Int32) (h : mH) : Option (Int32 × mH) := f_M_kill_0 a0 a1 a2 h
theorem c_M_kill {sc : Nat × (Nat → Int32)} {a0 : Nat} {a1 : Int32} {a2 : Int32} {h : mH} {r : Int32} {h' : mH} (hf : f_M_kill a0 a1 a2 h = some (r, h')) : MM sc y_M_kill prog_10_method_64_code 8 (some .int) 4 90 [.ref a0, .int a1, .int a2] h (some (.int r)) h' :=
  mm_of_G si_pn_M (Nat.le_of_ble_eq_true rfl) (t_M_kill_0 _ _ _ _ _ _ hf)
/-! M saves ()V -/
set_option maxRecDepth 100000 in
theorem dd_M_saves_0 : (decode prog_10_method_65_code 0 = .ok (.iconst 0, 1)) ∧ (decode prog_10_method_65_code 1 = .ok (.istore_n 1, 1)) ∧ (decode prog_10_method_65_code 2 = .ok (.iload_n 1, 1)) ∧ (decode prog_10_method_65_code 3 = .ok (.bipush 66, 2)) ∧ (decode prog_10_method_65_code 5 = .ok (.if_icmp .ge 21, 3)) ∧ (decode prog_10_method_65_code 8 = .ok (.aload_n 0, 1)) ∧ (decode prog_10_method_65_code 9 = .ok (.getfield 65, 3)) ∧ (decode prog_10_method_65_code 12 = .ok (.iload_n 1, 1)) ∧ (decode prog_10_method_65_code 13 = .ok (.aload_n 0, 1)) ∧ (decode prog_10_method_65_code 14 = .ok (.getfield 7, 3)) ∧ (decode prog_10_method_65_code 17 = .ok (.iload_n 1, 1)) ∧ (decode prog_10_method_65_code 18 = .ok (.iaload, 1)) ∧ (decode prog_10_method_65_code 19 = .ok (.iastore, 1)) ∧ (decode prog_10_method_65_code 20 = .ok (.iinc 1 1, 3)) ∧ (decode prog_10_method_65_code 23 = .ok (.goto (-21), 3)) ∧ (decode prog_10_method_65_code 26 = .ok (.return_, 1)) := by
  have h : List.drop 0 prog_10_method_65_code.data.toList = 0x03 :: _ := rfl
  refine ⟨zq_k_n 3 h rfl (zq_o_3 _), ?_⟩
  replace h := zq_nx1 (q := 1) h rfl
  refine ⟨zq_k_n 60 h rfl (zq_o_60 _), ?_⟩
  replace h := zq_nx1 (q := 2) h rfl
  refine ⟨zq_k_n 27 h rfl (zq_o_27 _), ?_⟩
  replace h := zq_nx1 (q := 3) h rfl
  refine ⟨zq_k_s1 16 (fun z => .bipush z) 66 h rfl (zq_o_16 _) (by decide +kernel), ?_⟩
  replace h := zq_nx2 (q := 5) h rfl
  refine ⟨zq_k_s2 162 (fun z => .if_icmp .ge z) 21 h rfl (zq_o_162 _) (by decide +kernel), ?_⟩
  replace h := zq_nx3 (q := 8) h rfl
  refine ⟨zq_k_n 42 h rfl (zq_o_42 _), ?_⟩
  replace h := zq_nx1 (q := 9) h rfl
  refine ⟨zq_k_u2 180 (fun z => .getfield z) 65 h rfl (zq_o_180 _) (by decide +kernel), ?_⟩
  replace h := zq_nx3 (q := 12) h rfl
  refine ⟨zq_k_n 27 h rfl (zq_o_27 _), ?_⟩
  replace h := zq_nx1 (q := 13) h rfl
  refine ⟨zq_k_n 42 h rfl (zq_o_42 _), ?_⟩
  replace h := zq_nx1 (q := 14) h rfl
  refine ⟨zq_k_u2 180 (fun z => .getfield z) 7 h rfl (zq_o_180 _) (by decide +kernel), ?_⟩
  replace h := zq_nx3 (q := 17) h rfl
  refine ⟨zq_k_n 27 h rfl (zq_o_27 _), ?_⟩
  replace h := zq_nx1 (q := 18) h rfl
  refine ⟨zq_k_n 46 h rfl (zq_o_46 _), ?_⟩
  replace h := zq_nx1 (q := 19) h rfl
  refine ⟨zq_k_n 79 h rfl (zq_o_79 _), ?_⟩
  replace h := zq_nx1 (q := 20) h rfl
  refine ⟨zq_k_iinc 1 1 h rfl (zq_o_132 _) (by decide +kernel) (by decide +kernel), ?_⟩
  replace h := zq_nx3 (q := 23) h rfl
  refine ⟨zq_k_s2 167 (fun z => .goto z) (-21) h rfl (zq_o_167 _) (by decide +kernel), ?_⟩
  replace h := zq_nx3 (q := 26) h rfl
  exact zq_k_n 177 h rfl (zq_o_177 _)
def f_M_saves_2b (rec2 : Nat → Int32 → mH → Option mH) (b0 : Nat) (b1 : Int32) (h : mH) : Option mH :=
  if (66 : Int32) ≤ b1 then
    some h
  else
    bd1 (gR h b0 8 31) fun x1 =>
    bd1 (gR h b0 8 0) fun x3 =>
    bd1 (aI h 0 x3 b1) fun x5 =>
    bd1 (sI h 0 x1 b1 x5) fun h7 =>
    rec2 b0 (b1 + (1 : Int32)) h7
set_option maxRecDepth 20000 in
theorem t_M_saves_2b {sc : Nat × (Nat → Int32)} (rec2 : Nat → Int32 → mH → Option mH) (hrec2 : ∀ (b0 : Nat) (b1 : Int32) (h : mH) (h' : mH), rec2 b0 b1 h = some h' → G sc y_M_saves prog_10_method_65_code 2 none 0 0 2 [(0, .ref b0), (1, .int b1)] [] h none h') (b0 : Nat) (b1 : Int32) (h : mH) (h' : mH) (hf : f_M_saves_2b rec2 b0 b1 h = some h') : G sc y_M_saves prog_10_method_65_code 2 none 0 0 2 [(0, .ref b0), (1, .int b1)] [] h none h' := by
  unfold f_M_saves_2b at hf
  refine g_iload_n (pc := 2) 1 dd_M_saves_0.2.2.1 rfl rfl ?_
  refine g_bipush (pc := 3) (66 : Int32) dd_M_saves_0.2.2.2.1 (by decide) ?_
  refine g_icmpge (pc := 5) 26 dd_M_saves_0.2.2.2.2.1 (by decide) (fun c9 => ?_) (fun c9 => ?_)
  · replace hf := (if_pos c9).symm.trans hf
    obtain rfl := ret1 hf
    exact g_vret (pc := 26) rfl dd_M_saves_0.2.2.2.2.2.2.2.2.2.2.2.2.2.2.2
  · replace hf := (if_neg c9).symm.trans hf
    refine g_aload_n (pc := 8) 0 dd_M_saves_0.2.2.2.2.2.1 rfl rfl ?_
    obtain ⟨x1, e2, hf⟩ := bd1_e hf
    refine g_get (pc := 9) (ci := 8) (kk := 31) dd_M_saves_0.2.2.2.2.2.2.1 rfl in_M (by decide) wd_969 (gR_spec e2) ?_
    refine g_iload_n (pc := 12) 1 dd_M_saves_0.2.2.2.2.2.2.2.1 rfl rfl ?_
    refine g_aload_n (pc := 13) 0 dd_M_saves_0.2.2.2.2.2.2.2.2.1 rfl rfl ?_
    obtain ⟨x3, e4, hf⟩ := bd1_e hf
    refine g_get (pc := 14) (ci := 8) (kk := 0) dd_M_saves_0.2.2.2.2.2.2.2.2.2.1 rfl in_M (by decide) wd_938 (gR_spec e4) ?_
    refine g_iload_n (pc := 17) 1 dd_M_saves_0.2.2.2.2.2.2.2.2.2.2.1 rfl rfl ?_
    obtain ⟨x5, e6, hf⟩ := bd1_e hf
    refine g_iald (pc := 18) dd_M_saves_0.2.2.2.2.2.2.2.2.2.2.2.1 e6 ?_
    obtain ⟨h7, e8, hf⟩ := bd1_e hf
    refine g_iast (pc := 19) dd_M_saves_0.2.2.2.2.2.2.2.2.2.2.2.2.1 e8 ?_
    refine g_iinc (pc := 20) 1 (b1 + (1 : Int32)) [(1, .int (b1 + (1 : Int32))), (0, .ref b0)] dd_M_saves_0.2.2.2.2.2.2.2.2.2.2.2.2.2.1 rfl rfl (Nat.le_of_ble_eq_true rfl) rfl ?_
    refine g_goto (pc := 23) 2 dd_M_saves_0.2.2.2.2.2.2.2.2.2.2.2.2.2.2.1 (by decide) ?_
    refine g_lv [1, 0] rfl ?_
    exact hrec2 _ _ _ _  hf
def f_M_saves_2  : Nat → Nat → Int32 → mH → Option mH
  | 0 => fun _ _ _ => none
  | n + 1 => f_M_saves_2b  (f_M_saves_2  n)
theorem t_M_saves_2 {sc : Nat × (Nat → Int32)}  : ∀ (n : Nat) (b0 : Nat) (b1 : Int32) (h : mH) (h' : mH) (hf : f_M_saves_2  n b0 b1 h = some h'), G sc y_M_saves prog_10_method_65_code 2 none 0 0 2 [(0, .ref b0), (1, .int b1)] [] h none h'
  | 0, _, _, _, _, hf => by cases hf
  | n + 1, _, _, _, _, hf => t_M_saves_2b  (f_M_saves_2  n) (t_M_saves_2  n) _ _ _ _ hf
def f_M_saves_0  (a0 : Nat) (h : mH) : Option mH :=
  f_M_saves_2  FU a0 (0 : Int32) h
set_option maxRecDepth 20000 in
theorem t_M_saves_0 {sc : Nat × (Nat → Int32)}  (a0 : Nat) (h : mH) (h' : mH) (hf : f_M_saves_0  a0 h = some h') : G sc y_M_saves prog_10_method_65_code 2 none 0 0 0 [(0, .ref a0)] [] h none h' := by
  unfold f_M_saves_0 at hf
  refine g_iconst (pc := 0) (0 : Int32) dd_M_saves_0.1 (by decide) ?_
  refine g_istore_n (pc := 1) [(1, .int (0 : Int32)), (0, .ref a0)] dd_M_saves_0.2.1 rfl (Nat.le_of_ble_eq_true rfl) rfl ?_
  refine g_lv [1, 0] rfl ?_
  exact t_M_saves_2  FU _ _ _ _  hf
def f_M_saves (a0 : Nat) (h : mH) : Option mH := f_M_saves_0 a0 h
theorem c_M_saves {sc : Nat × (Nat → Int32)} {a0 : Nat} {h : mH} {h' : mH} (hf : f_M_saves a0 h = some h') : MM sc y_M_saves prog_10_method_65_code 2 none 0 0 [.ref a0] h none h' :=
  mm_of_G si_pn_M (Nat.le_of_ble_eq_true rfl) (t_M_saves_0 _ _ _ hf)
/-! M wantedBy (I)I -/
set_option maxRecDepth 100000 in
theorem dd_M_wantedBy_0 : (decode prog_10_method_67_code 0 = .ok (.bipush (-4), 2)) ∧ (decode prog_10_method_67_code 2 = .ok (.istore_n 2, 1)) ∧ (decode prog_10_method_67_code 3 = .ok (.iconst 0, 1)) ∧ (decode prog_10_method_67_code 4 = .ok (.istore_n 3, 1)) ∧ (decode prog_10_method_67_code 5 = .ok (.iload_n 3, 1)) ∧ (decode prog_10_method_67_code 6 = .ok (.aload_n 0, 1)) ∧ (decode prog_10_method_67_code 7 = .ok (.getfield 106, 3)) ∧ (decode prog_10_method_67_code 10 = .ok (.if_icmp .ge 80, 3)) ∧ (decode prog_10_method_67_code 13 = .ok (.aload_n 0, 1)) ∧ (decode prog_10_method_67_code 14 = .ok (.getfield 7, 3)) ∧ (decode prog_10_method_67_code 17 = .ok (.bipush 21, 2)) ∧ (decode prog_10_method_67_code 19 = .ok (.iload_n 1, 1)) ∧ (decode prog_10_method_67_code 20 = .ok (.iadd, 1)) ∧ (decode prog_10_method_67_code 21 = .ok (.iaload, 1)) ∧ (decode prog_10_method_67_code 22 = .ok (.iload_n 3, 1)) ∧ (decode prog_10_method_67_code 23 = .ok (.ishr, 1)) ∧ (decode prog_10_method_67_code 24 = .ok (.iconst 1, 1)) ∧ (decode prog_10_method_67_code 25 = .ok (.iand, 1)) ∧ (decode prog_10_method_67_code 26 = .ok (.iconst 1, 1)) ∧ (decode prog_10_method_67_code 27 = .ok (.if_icmp .ne 24, 3)) ∧ (decode prog_10_method_67_code 30 = .ok (.aload_n 0, 1)) ∧ (decode prog_10_method_67_code 31 = .ok (.iload_n 1, 1)) ∧ (decode prog_10_method_67_code 32 = .ok (.iload_n 3, 1)) ∧ (decode prog_10_method_67_code 33 = .ok (.invokevirtual 216, 3)) := by
  have h : List.drop 0 prog_10_method_67_code.data.toList = 0x10 :: _ := rfl
  refine ⟨zq_k_s1 16 (fun z => .bipush z) (-4) h rfl (zq_o_16 _) (by decide +kernel), ?_⟩
  replace h := zq_nx2 (q := 2) h rfl
  refine ⟨zq_k_n 61 h rfl (zq_o_61 _), ?_⟩
  replace h := zq_nx1 (q := 3) h rfl
  refine ⟨zq_k_n 3 h rfl (zq_o_3 _), ?_⟩
  replace h := zq_nx1 (q := 4) h rfl
  refine ⟨zq_k_n 62 h rfl (zq_o_62 _), ?_⟩
  replace h := zq_nx1 (q := 5) h rfl
  refine ⟨zq_k_n 29 h rfl (zq_o_29 _), ?_⟩
  replace h := zq_nx1 (q := 6) h rfl
  refine ⟨zq_k_n 42 h rfl (zq_o_42 _), ?_⟩
  replace h := zq_nx1 (q := 7) h rfl
  refine ⟨zq_k_u2 180 (fun z => .getfield z) 106 h rfl (zq_o_180 _) (by decide +kernel), ?_⟩
  replace h := zq_nx3 (q := 10) h rfl
  refine ⟨zq_k_s2 162 (fun z => .if_icmp .ge z) 80 h rfl (zq_o_162 _) (by decide +kernel), ?_⟩
  replace h := zq_nx3 (q := 13) h rfl
  refine ⟨zq_k_n 42 h rfl (zq_o_42 _), ?_⟩
  replace h := zq_nx1 (q := 14) h rfl
  refine ⟨zq_k_u2 180 (fun z => .getfield z) 7 h rfl (zq_o_180 _) (by decide +kernel), ?_⟩
  replace h := zq_nx3 (q := 17) h rfl
  refine ⟨zq_k_s1 16 (fun z => .bipush z) 21 h rfl (zq_o_16 _) (by decide +kernel), ?_⟩
  replace h := zq_nx2 (q := 19) h rfl
  refine ⟨zq_k_n 27 h rfl (zq_o_27 _), ?_⟩
  replace h := zq_nx1 (q := 20) h rfl
  refine ⟨zq_k_n 96 h rfl (zq_o_96 _), ?_⟩
  replace h := zq_nx1 (q := 21) h rfl
  refine ⟨zq_k_n 46 h rfl (zq_o_46 _), ?_⟩
  replace h := zq_nx1 (q := 22) h rfl
  refine ⟨zq_k_n 29 h rfl (zq_o_29 _), ?_⟩
  replace h := zq_nx1 (q := 23) h rfl
  refine ⟨zq_k_n 122 h rfl (zq_o_122 _), ?_⟩
  replace h := zq_nx1 (q := 24) h rfl
  refine ⟨zq_k_n 4 h rfl (zq_o_4 _), ?_⟩
  replace h := zq_nx1 (q := 25) h rfl
  refine ⟨zq_k_n 126 h rfl (zq_o_126 _), ?_⟩
  replace h := zq_nx1 (q := 26) h rfl
  refine ⟨zq_k_n 4 h rfl (zq_o_4 _), ?_⟩
  replace h := zq_nx1 (q := 27) h rfl
  refine ⟨zq_k_s2 160 (fun z => .if_icmp .ne z) 24 h rfl (zq_o_160 _) (by decide +kernel), ?_⟩
  replace h := zq_nx3 (q := 30) h rfl
  refine ⟨zq_k_n 42 h rfl (zq_o_42 _), ?_⟩
  replace h := zq_nx1 (q := 31) h rfl
  refine ⟨zq_k_n 27 h rfl (zq_o_27 _), ?_⟩
  replace h := zq_nx1 (q := 32) h rfl
  refine ⟨zq_k_n 29 h rfl (zq_o_29 _), ?_⟩
  replace h := zq_nx1 (q := 33) h rfl
  exact zq_k_u2 182 (fun z => .invokevirtual z) 216 h rfl (zq_o_182 _) (by decide +kernel)
set_option maxRecDepth 100000 in
theorem dd_M_wantedBy_36 : (decode prog_10_method_67_code 36 = .ok (.ifCond .eq 15, 3)) ∧ (decode prog_10_method_67_code 39 = .ok (.aload_n 0, 1)) ∧ (decode prog_10_method_67_code 40 = .ok (.iload_n 3, 1)) ∧ (decode prog_10_method_67_code 41 = .ok (.invokevirtual 204, 3)) ∧ (decode prog_10_method_67_code 44 = .ok (.ifCond .le 7, 3)) ∧ (decode prog_10_method_67_code 47 = .ok (.iconst 1, 1)) ∧ (decode prog_10_method_67_code 48 = .ok (.goto 4, 3)) ∧ (decode prog_10_method_67_code 51 = .ok (.iconst 0, 1)) ∧ (decode prog_10_method_67_code 52 = .ok (.istore 4, 2)) ∧ (decode prog_10_method_67_code 54 = .ok (.iload 4, 2)) ∧ (decode prog_10_method_67_code 56 = .ok (.ifCond .eq 26, 3)) ∧ (decode prog_10_method_67_code 59 = .ok (.iload_n 2, 1)) ∧ (decode prog_10_method_67_code 60 = .ok (.bipush (-4), 2)) ∧ (decode prog_10_method_67_code 62 = .ok (.if_icmp .eq 16, 3)) ∧ (decode prog_10_method_67_code 65 = .ok (.aload_n 0, 1)) ∧ (decode prog_10_method_67_code 66 = .ok (.iload_n 3, 1)) ∧ (decode prog_10_method_67_code 67 = .ok (.invokevirtual 204, 3)) ∧ (decode prog_10_method_67_code 70 = .ok (.aload_n 0, 1)) ∧ (decode prog_10_method_67_code 71 = .ok (.iload_n 2, 1)) ∧ (decode prog_10_method_67_code 72 = .ok (.invokevirtual 204, 3)) ∧ (decode prog_10_method_67_code 75 = .ok (.if_icmp .le 7, 3)) ∧ (decode prog_10_method_67_code 78 = .ok (.iload_n 3, 1)) ∧ (decode prog_10_method_67_code 79 = .ok (.goto 4, 3)) ∧ (decode prog_10_method_67_code 82 = .ok (.iload_n 2, 1)) := by
  have h : List.drop 36 prog_10_method_67_code.data.toList = 0x99 :: _ := rfl
  refine ⟨zq_k_s2 153 (fun z => .ifCond .eq z) 15 h rfl (zq_o_153 _) (by decide +kernel), ?_⟩
  replace h := zq_nx3 (q := 39) h rfl
  refine ⟨zq_k_n 42 h rfl (zq_o_42 _), ?_⟩
  replace h := zq_nx1 (q := 40) h rfl
  refine ⟨zq_k_n 29 h rfl (zq_o_29 _), ?_⟩
  replace h := zq_nx1 (q := 41) h rfl
  refine ⟨zq_k_u2 182 (fun z => .invokevirtual z) 204 h rfl (zq_o_182 _) (by decide +kernel), ?_⟩
  replace h := zq_nx3 (q := 44) h rfl
  refine ⟨zq_k_s2 158 (fun z => .ifCond .le z) 7 h rfl (zq_o_158 _) (by decide +kernel), ?_⟩
  replace h := zq_nx3 (q := 47) h rfl
  refine ⟨zq_k_n 4 h rfl (zq_o_4 _), ?_⟩
  replace h := zq_nx1 (q := 48) h rfl
  refine ⟨zq_k_s2 167 (fun z => .goto z) 4 h rfl (zq_o_167 _) (by decide +kernel), ?_⟩
  replace h := zq_nx3 (q := 51) h rfl
  refine ⟨zq_k_n 3 h rfl (zq_o_3 _), ?_⟩
  replace h := zq_nx1 (q := 52) h rfl
  refine ⟨zq_k_u1 54 (fun z => .istore z) 4 h rfl (zq_o_54 _) (by decide +kernel), ?_⟩
  replace h := zq_nx2 (q := 54) h rfl
  refine ⟨zq_k_u1 21 (fun z => .iload z) 4 h rfl (zq_o_21 _) (by decide +kernel), ?_⟩
  replace h := zq_nx2 (q := 56) h rfl
  refine ⟨zq_k_s2 153 (fun z => .ifCond .eq z) 26 h rfl (zq_o_153 _) (by decide +kernel), ?_⟩
  replace h := zq_nx3 (q := 59) h rfl
  refine ⟨zq_k_n 28 h rfl (zq_o_28 _), ?_⟩
  replace h := zq_nx1 (q := 60) h rfl
  refine ⟨zq_k_s1 16 (fun z => .bipush z) (-4) h rfl (zq_o_16 _) (by decide +kernel), ?_⟩
  replace h := zq_nx2 (q := 62) h rfl
  refine ⟨zq_k_s2 159 (fun z => .if_icmp .eq z) 16 h rfl (zq_o_159 _) (by decide +kernel), ?_⟩
  replace h := zq_nx3 (q := 65) h rfl
  refine ⟨zq_k_n 42 h rfl (zq_o_42 _), ?_⟩
  replace h := zq_nx1 (q := 66) h rfl
  refine ⟨zq_k_n 29 h rfl (zq_o_29 _), ?_⟩
  replace h := zq_nx1 (q := 67) h rfl
  refine ⟨zq_k_u2 182 (fun z => .invokevirtual z) 204 h rfl (zq_o_182 _) (by decide +kernel), ?_⟩
  replace h := zq_nx3 (q := 70) h rfl
  refine ⟨zq_k_n 42 h rfl (zq_o_42 _), ?_⟩
  replace h := zq_nx1 (q := 71) h rfl
  refine ⟨zq_k_n 28 h rfl (zq_o_28 _), ?_⟩
  replace h := zq_nx1 (q := 72) h rfl
  refine ⟨zq_k_u2 182 (fun z => .invokevirtual z) 204 h rfl (zq_o_182 _) (by decide +kernel), ?_⟩
  replace h := zq_nx3 (q := 75) h rfl
  refine ⟨zq_k_s2 164 (fun z => .if_icmp .le z) 7 h rfl (zq_o_164 _) (by decide +kernel), ?_⟩
  replace h := zq_nx3 (q := 78) h rfl
  refine ⟨zq_k_n 29 h rfl (zq_o_29 _), ?_⟩
  replace h := zq_nx1 (q := 79) h rfl
  refine ⟨zq_k_s2 167 (fun z => .goto z) 4 h rfl (zq_o_167 _) (by decide +kernel), ?_⟩
  replace h := zq_nx3 (q := 82) h rfl
  exact zq_k_n 28 h rfl (zq_o_28 _)
set_option maxRecDepth 100000 in
theorem dd_M_wantedBy_83 : (decode prog_10_method_67_code 83 = .ok (.istore_n 2, 1)) ∧ (decode prog_10_method_67_code 84 = .ok (.iinc 3 1, 3)) ∧ (decode prog_10_method_67_code 87 = .ok (.goto (-82), 3)) ∧ (decode prog_10_method_67_code 90 = .ok (.iload_n 2, 1)) ∧ (decode prog_10_method_67_code 91 = .ok (.ireturn, 1)) := by
  have h : List.drop 83 prog_10_method_67_code.data.toList = 0x3d :: _ := rfl
  refine ⟨zq_k_n 61 h rfl (zq_o_61 _), ?_⟩
  replace h := zq_nx1 (q := 84) h rfl
  refine ⟨zq_k_iinc 3 1 h rfl (zq_o_132 _) (by decide +kernel) (by decide +kernel), ?_⟩
  replace h := zq_nx3 (q := 87) h rfl
  refine ⟨zq_k_s2 167 (fun z => .goto z) (-82) h rfl (zq_o_167 _) (by decide +kernel), ?_⟩
  replace h := zq_nx3 (q := 90) h rfl
  refine ⟨zq_k_n 28 h rfl (zq_o_28 _), ?_⟩
  replace h := zq_nx1 (q := 91) h rfl
  exact zq_k_n 172 h rfl (zq_o_172 _)
def f_M_wantedBy_83 (rec5 : Nat → Int32 → Int32 → Int32 → mH → Option (Int32 × mH)) (b0 : Nat) (b1 : Int32) (b3 : Int32) (s0 : Int32) (h : mH) : Option (Int32 × mH) :=
  rec5 b0 b1 s0 (b3 + (1 : Int32)) h
set_option maxRecDepth 20000 in
theorem t_M_wantedBy_83 {sc : Nat × (Nat → Int32)} (rec5 : Nat → Int32 → Int32 → Int32 → mH → Option (Int32 × mH)) (hrec5 : ∀ (b0 : Nat) (b1 : Int32) (b2 : Int32) (b3 : Int32) (h : mH) (r : Int32) (h' : mH), rec5 b0 b1 b2 b3 h = some (r, h') → G sc y_M_wantedBy prog_10_method_67_code 5 (some .int) 4 89 5 [(0, .ref b0), (1, .int b1), (2, .int b2), (3, .int b3)] [] h (some (.int r)) h') (b0 : Nat) (b1 : Int32) (b3 : Int32) (s0 : Int32) (h : mH) (r : Int32) (h' : mH) (hf : f_M_wantedBy_83 rec5 b0 b1 b3 s0 h = some (r, h')) : G sc y_M_wantedBy prog_10_method_67_code 5 (some .int) 4 89 83 [(0, .ref b0), (1, .int b1), (3, .int b3)] [.int s0] h (some (.int r)) h' := by
  unfold f_M_wantedBy_83 at hf
  refine g_istore_n (pc := 83) [(2, .int s0), (0, .ref b0), (1, .int b1), (3, .int b3)] dd_M_wantedBy_83.1 rfl (Nat.le_of_ble_eq_true rfl) rfl ?_
  refine g_iinc (pc := 84) 3 (b3 + (1 : Int32)) [(3, .int (b3 + (1 : Int32))), (2, .int s0), (0, .ref b0), (1, .int b1)] dd_M_wantedBy_83.2.1 rfl rfl (Nat.le_of_ble_eq_true rfl) rfl ?_
  refine g_goto (pc := 87) 5 dd_M_wantedBy_83.2.2.1 (by decide) ?_
  refine g_lv [2, 3, 1, 0] rfl ?_
  exact hrec5 _ _ _ _ _ _ _  hf
def f_M_wantedBy_82 (rec5 : Nat → Int32 → Int32 → Int32 → mH → Option (Int32 × mH)) (b0 : Nat) (b1 : Int32) (b2 : Int32) (b3 : Int32) (h : mH) : Option (Int32 × mH) :=
  f_M_wantedBy_83 rec5 b0 b1 b3 b2 h
set_option maxRecDepth 20000 in
theorem t_M_wantedBy_82 {sc : Nat × (Nat → Int32)} (rec5 : Nat → Int32 → Int32 → Int32 → mH → Option (Int32 × mH)) (hrec5 : ∀ (b0 : Nat) (b1 : Int32) (b2 : Int32) (b3 : Int32) (h : mH) (r : Int32) (h' : mH), rec5 b0 b1 b2 b3 h = some (r, h') → G sc y_M_wantedBy prog_10_method_67_code 5 (some .int) 4 89 5 [(0, .ref b0), (1, .int b1), (2, .int b2), (3, .int b3)] [] h (some (.int r)) h') (b0 : Nat) (b1 : Int32) (b2 : Int32) (b3 : Int32) (h : mH) (r : Int32) (h' : mH) (hf : f_M_wantedBy_82 rec5 b0 b1 b2 b3 h = some (r, h')) : G sc y_M_wantedBy prog_10_method_67_code 5 (some .int) 4 89 82 [(0, .ref b0), (1, .int b1), (2, .int b2), (3, .int b3)] [] h (some (.int r)) h' := by
  unfold f_M_wantedBy_82 at hf
  refine g_iload_n (pc := 82) 2 dd_M_wantedBy_36.2.2.2.2.2.2.2.2.2.2.2.2.2.2.2.2.2.2.2.2.2.2.2 rfl rfl ?_
  refine g_lv [0, 1, 3] rfl ?_
  exact t_M_wantedBy_83 rec5 hrec5 _ _ _ _ _ _ _  hf
def f_M_wantedBy_78 (rec5 : Nat → Int32 → Int32 → Int32 → mH → Option (Int32 × mH)) (b0 : Nat) (b1 : Int32) (b3 : Int32) (h : mH) : Option (Int32 × mH) :=
  f_M_wantedBy_83 rec5 b0 b1 b3 b3 h
set_option maxRecDepth 20000 in
theorem t_M_wantedBy_78 {sc : Nat × (Nat → Int32)} (rec5 : Nat → Int32 → Int32 → Int32 → mH → Option (Int32 × mH)) (hrec5 : ∀ (b0 : Nat) (b1 : Int32) (b2 : Int32) (b3 : Int32) (h : mH) (r : Int32) (h' : mH), rec5 b0 b1 b2 b3 h = some (r, h') → G sc y_M_wantedBy prog_10_method_67_code 5 (some .int) 4 89 5 [(0, .ref b0), (1, .int b1), (2, .int b2), (3, .int b3)] [] h (some (.int r)) h') (b0 : Nat) (b1 : Int32) (b3 : Int32) (h : mH) (r : Int32) (h' : mH) (hf : f_M_wantedBy_78 rec5 b0 b1 b3 h = some (r, h')) : G sc y_M_wantedBy prog_10_method_67_code 5 (some .int) 4 89 78 [(0, .ref b0), (1, .int b1), (3, .int b3)] [] h (some (.int r)) h' := by
  unfold f_M_wantedBy_78 at hf
  refine g_iload_n (pc := 78) 2 dd_M_wantedBy_36.2.2.2.2.2.2.2.2.2.2.2.2.2.2.2.2.2.2.2.2.2.1 rfl rfl ?_
  refine g_goto (pc := 79) 83 dd_M_wantedBy_36.2.2.2.2.2.2.2.2.2.2.2.2.2.2.2.2.2.2.2.2.2.2.1 (by decide) ?_
  refine g_lv [0, 1, 2] rfl ?_
  exact t_M_wantedBy_83 rec5 hrec5 _ _ _ _ _ _ _  hf
def f_M_wantedBy_52 (rec5 : Nat → Int32 → Int32 → Int32 → mH → Option (Int32 × mH)) (b0 : Nat) (b1 : Int32) (b2 : Int32) (b3 : Int32) (s0 : Int32) (h : mH) : Option (Int32 × mH) :=
  if s0 = 0 then
    f_M_wantedBy_82 rec5 b0 b1 b2 b3 h
  else
    if b2 = ((-4) : Int32) then
      f_M_wantedBy_78 rec5 b0 b1 b3 h
    else
      bd1 (kC h b0 8) fun _ =>
      bd2 (f_M_needOf b0 b3 h) fun x25 h23 =>
      bd1 (kC h23 b0 8) fun _ =>
      bd2 (f_M_needOf b0 b2 h23) fun x30 h28 =>
      if x25 ≤ x30 then
        f_M_wantedBy_82 rec5 b0 b1 b2 b3 h28
      else
        f_M_wantedBy_78 rec5 b0 b1 b3 h28
set_option maxRecDepth 20000 in
theorem t_M_wantedBy_52 {sc : Nat × (Nat → Int32)} (rec5 : Nat → Int32 → Int32 → Int32 → mH → Option (Int32 × mH)) (hrec5 : ∀ (b0 : Nat) (b1 : Int32) (b2 : Int32) (b3 : Int32) (h : mH) (r : Int32) (h' : mH), rec5 b0 b1 b2 b3 h = some (r, h') → G sc y_M_wantedBy prog_10_method_67_code 5 (some .int) 4 89 5 [(0, .ref b0), (1, .int b1), (2, .int b2), (3, .int b3)] [] h (some (.int r)) h') (b0 : Nat) (b1 : Int32) (b2 : Int32) (b3 : Int32) (s0 : Int32) (h : mH) (r : Int32) (h' : mH) (hf : f_M_wantedBy_52 rec5 b0 b1 b2 b3 s0 h = some (r, h')) : G sc y_M_wantedBy prog_10_method_67_code 5 (some .int) 4 89 52 [(0, .ref b0), (1, .int b1), (2, .int b2), (3, .int b3)] [.int s0] h (some (.int r)) h' := by
  unfold f_M_wantedBy_52 at hf
  refine g_istore (pc := 52) [(4, .int s0), (0, .ref b0), (1, .int b1), (2, .int b2), (3, .int b3)] dd_M_wantedBy_36.2.2.2.2.2.2.2.2.1 (Nat.le_of_ble_eq_true rfl) rfl ?_
  refine g_iload (pc := 54) 0 dd_M_wantedBy_36.2.2.2.2.2.2.2.2.2.1 rfl ?_
  refine g_ifeq (pc := 56) 82 dd_M_wantedBy_36.2.2.2.2.2.2.2.2.2.2.1 (by decide) (fun c33 => ?_) (fun c33 => ?_)
  · replace hf := (if_pos c33).symm.trans hf
    refine g_lv [1, 2, 3, 4] rfl ?_
    exact t_M_wantedBy_82 rec5 hrec5 _ _ _ _ _ _ _  hf
  · replace hf := (if_neg c33).symm.trans hf
    refine g_iload_n (pc := 59) 3 dd_M_wantedBy_36.2.2.2.2.2.2.2.2.2.2.2.1 rfl rfl ?_
    refine g_bipush (pc := 60) ((-4) : Int32) dd_M_wantedBy_36.2.2.2.2.2.2.2.2.2.2.2.2.1 (by decide) ?_
    refine g_icmpeq (pc := 62) 78 dd_M_wantedBy_36.2.2.2.2.2.2.2.2.2.2.2.2.2.1 (by decide) (fun c32 => ?_) (fun c32 => ?_)
    · replace hf := (if_pos c32).symm.trans hf
      refine g_lv [1, 2, 4] rfl ?_
      exact t_M_wantedBy_78 rec5 hrec5 _ _ _ _ _ _  hf
    · replace hf := (if_neg c32).symm.trans hf
      refine g_aload_n (pc := 65) 1 dd_M_wantedBy_36.2.2.2.2.2.2.2.2.2.2.2.2.2.2.1 rfl rfl ?_
      refine g_iload_n (pc := 66) 4 dd_M_wantedBy_36.2.2.2.2.2.2.2.2.2.2.2.2.2.2.2.1 rfl rfl ?_
      obtain ⟨u22, e21, hf⟩ := bd1_e hf
      obtain ⟨x25, h23, e24, hf⟩ := bd2_e hf
      refine g_callV (pc := 67) (ci := 8) [.int b3] (site_of si_M_needOf (by decide) (by decide)) wd_1140 wd_1142 wp_45 dd_M_wantedBy_36.2.2.2.2.2.2.2.2.2.2.2.2.2.2.2.2.1 rfl e21 (Nat.le_of_ble_eq_true rfl) (fun z => absurd z si_na_M_needOf) (fun z => absurd z si_na_M_needOf) (fun z => absurd z si_na_M_needOf) (c_M_needOf e24) rfl ?_
      refine g_st [.int x25] rfl ?_
      refine g_aload_n (pc := 70) 1 dd_M_wantedBy_36.2.2.2.2.2.2.2.2.2.2.2.2.2.2.2.2.2.1 rfl rfl ?_
      refine g_iload_n (pc := 71) 3 dd_M_wantedBy_36.2.2.2.2.2.2.2.2.2.2.2.2.2.2.2.2.2.2.1 rfl rfl ?_
      obtain ⟨u27, e26, hf⟩ := bd1_e hf
      obtain ⟨x30, h28, e29, hf⟩ := bd2_e hf
      refine g_callV (pc := 72) (ci := 8) [.int b2] (site_of si_M_needOf (by decide) (by decide)) wd_1140 wd_1142 wp_45 dd_M_wantedBy_36.2.2.2.2.2.2.2.2.2.2.2.2.2.2.2.2.2.2.2.1 rfl e26 (Nat.le_of_ble_eq_true rfl) (fun z => absurd z si_na_M_needOf) (fun z => absurd z si_na_M_needOf) (fun z => absurd z si_na_M_needOf) (c_M_needOf e29) rfl ?_
      refine g_st [.int x30, .int x25] rfl ?_
      refine g_icmple (pc := 75) 82 dd_M_wantedBy_36.2.2.2.2.2.2.2.2.2.2.2.2.2.2.2.2.2.2.2.2.1 (by decide) (fun c31 => ?_) (fun c31 => ?_)
      · replace hf := (if_pos c31).symm.trans hf
        refine g_lv [1, 2, 3, 4] rfl ?_
        exact t_M_wantedBy_82 rec5 hrec5 _ _ _ _ _ _ _  hf
      · replace hf := (if_neg c31).symm.trans hf
        refine g_lv [1, 2, 4] rfl ?_
        exact t_M_wantedBy_78 rec5 hrec5 _ _ _ _ _ _  hf
def f_M_wantedBy_51 (rec5 : Nat → Int32 → Int32 → Int32 → mH → Option (Int32 × mH)) (b0 : Nat) (b1 : Int32) (b2 : Int32) (b3 : Int32) (h : mH) : Option (Int32 × mH) :=
  f_M_wantedBy_52 rec5 b0 b1 b2 b3 (0 : Int32) h
set_option maxRecDepth 20000 in
theorem t_M_wantedBy_51 {sc : Nat × (Nat → Int32)} (rec5 : Nat → Int32 → Int32 → Int32 → mH → Option (Int32 × mH)) (hrec5 : ∀ (b0 : Nat) (b1 : Int32) (b2 : Int32) (b3 : Int32) (h : mH) (r : Int32) (h' : mH), rec5 b0 b1 b2 b3 h = some (r, h') → G sc y_M_wantedBy prog_10_method_67_code 5 (some .int) 4 89 5 [(0, .ref b0), (1, .int b1), (2, .int b2), (3, .int b3)] [] h (some (.int r)) h') (b0 : Nat) (b1 : Int32) (b2 : Int32) (b3 : Int32) (h : mH) (r : Int32) (h' : mH) (hf : f_M_wantedBy_51 rec5 b0 b1 b2 b3 h = some (r, h')) : G sc y_M_wantedBy prog_10_method_67_code 5 (some .int) 4 89 51 [(0, .ref b0), (1, .int b1), (2, .int b2), (3, .int b3)] [] h (some (.int r)) h' := by
  unfold f_M_wantedBy_51 at hf
  refine g_iconst (pc := 51) (0 : Int32) dd_M_wantedBy_36.2.2.2.2.2.2.2.1 (by decide) ?_
  refine g_lv [0, 1, 2, 3] rfl ?_
  exact t_M_wantedBy_52 rec5 hrec5 _ _ _ _ _ _ _ _  hf
def f_M_wantedBy_5b (rec5 : Nat → Int32 → Int32 → Int32 → mH → Option (Int32 × mH)) (b0 : Nat) (b1 : Int32) (b2 : Int32) (b3 : Int32) (h : mH) : Option (Int32 × mH) :=
  bd1 (gI h b0 8 2) fun x1 =>
  if x1 ≤ b3 then
    some (b2, h)
  else
    bd1 (gR h b0 8 0) fun x3 =>
    bd1 (aI h 0 x3 ((21 : Int32) + b1)) fun x5 =>
    if ((x5 >>> (b3 &&& 31)) &&& (1 : Int32)) = (1 : Int32) then
      bd1 (kC h b0 8) fun _ =>
      bd2 (f_M_canBreak b0 b1 b3 h) fun x11 h9 =>
      if x11 = 0 then
        f_M_wantedBy_51 rec5 b0 b1 b2 b3 h9
      else
        bd1 (kC h9 b0 8) fun _ =>
        bd2 (f_M_needOf b0 b3 h9) fun x16 h14 =>
        if x16 ≤ 0 then
          f_M_wantedBy_51 rec5 b0 b1 b2 b3 h14
        else
          f_M_wantedBy_52 rec5 b0 b1 b2 b3 (1 : Int32) h14
    else
      f_M_wantedBy_51 rec5 b0 b1 b2 b3 h
set_option maxRecDepth 20000 in
theorem t_M_wantedBy_5b {sc : Nat × (Nat → Int32)} (rec5 : Nat → Int32 → Int32 → Int32 → mH → Option (Int32 × mH)) (hrec5 : ∀ (b0 : Nat) (b1 : Int32) (b2 : Int32) (b3 : Int32) (h : mH) (r : Int32) (h' : mH), rec5 b0 b1 b2 b3 h = some (r, h') → G sc y_M_wantedBy prog_10_method_67_code 5 (some .int) 4 89 5 [(0, .ref b0), (1, .int b1), (2, .int b2), (3, .int b3)] [] h (some (.int r)) h') (b0 : Nat) (b1 : Int32) (b2 : Int32) (b3 : Int32) (h : mH) (r : Int32) (h' : mH) (hf : f_M_wantedBy_5b rec5 b0 b1 b2 b3 h = some (r, h')) : G sc y_M_wantedBy prog_10_method_67_code 5 (some .int) 4 89 5 [(0, .ref b0), (1, .int b1), (2, .int b2), (3, .int b3)] [] h (some (.int r)) h' := by
  unfold f_M_wantedBy_5b at hf
  refine g_iload_n (pc := 5) 3 dd_M_wantedBy_0.2.2.2.2.1 rfl rfl ?_
  refine g_aload_n (pc := 6) 0 dd_M_wantedBy_0.2.2.2.2.2.1 rfl rfl ?_
  obtain ⟨x1, e2, hf⟩ := bd1_e hf
  refine g_get (pc := 7) (ci := 8) (kk := 2) dd_M_wantedBy_0.2.2.2.2.2.2.1 rfl in_M (by decide) wd_940 (gI_spec e2) ?_
  refine g_icmpge (pc := 10) 90 dd_M_wantedBy_0.2.2.2.2.2.2.2.1 (by decide) (fun c20 => ?_) (fun c20 => ?_)
  · replace hf := (if_pos c20).symm.trans hf
    refine g_iload_n (pc := 90) 2 dd_M_wantedBy_83.2.2.2.1 rfl rfl ?_
    obtain ⟨rfl, rfl⟩ := ret2 hf
    exact g_iret (pc := 91) rfl dd_M_wantedBy_83.2.2.2.2
  · replace hf := (if_neg c20).symm.trans hf
    refine g_aload_n (pc := 13) 0 dd_M_wantedBy_0.2.2.2.2.2.2.2.2.1 rfl rfl ?_
    obtain ⟨x3, e4, hf⟩ := bd1_e hf
    refine g_get (pc := 14) (ci := 8) (kk := 0) dd_M_wantedBy_0.2.2.2.2.2.2.2.2.2.1 rfl in_M (by decide) wd_938 (gR_spec e4) ?_
    refine g_bipush (pc := 17) (21 : Int32) dd_M_wantedBy_0.2.2.2.2.2.2.2.2.2.2.1 (by decide) ?_
    refine g_iload_n (pc := 19) 1 dd_M_wantedBy_0.2.2.2.2.2.2.2.2.2.2.2.1 rfl rfl ?_
    refine g_iadd (pc := 20) dd_M_wantedBy_0.2.2.2.2.2.2.2.2.2.2.2.2.1 ?_
    obtain ⟨x5, e6, hf⟩ := bd1_e hf
    refine g_iald (pc := 21) dd_M_wantedBy_0.2.2.2.2.2.2.2.2.2.2.2.2.2.1 e6 ?_
    refine g_iload_n (pc := 22) 3 dd_M_wantedBy_0.2.2.2.2.2.2.2.2.2.2.2.2.2.2.1 rfl rfl ?_
    refine g_ishr (pc := 23) dd_M_wantedBy_0.2.2.2.2.2.2.2.2.2.2.2.2.2.2.2.1 ?_
    refine g_iconst (pc := 24) (1 : Int32) dd_M_wantedBy_0.2.2.2.2.2.2.2.2.2.2.2.2.2.2.2.2.1 (by decide) ?_
    refine g_iand (pc := 25) dd_M_wantedBy_0.2.2.2.2.2.2.2.2.2.2.2.2.2.2.2.2.2.1 ?_
    refine g_iconst (pc := 26) (1 : Int32) dd_M_wantedBy_0.2.2.2.2.2.2.2.2.2.2.2.2.2.2.2.2.2.2.1 (by decide) ?_
    refine g_icmpne (pc := 27) 51 dd_M_wantedBy_0.2.2.2.2.2.2.2.2.2.2.2.2.2.2.2.2.2.2.2.1 (by decide) (fun c19 => ?_) (fun c19 => ?_)
    · replace hf := (if_neg c19).symm.trans hf
      refine g_lv [0, 1, 2, 3] rfl ?_
      exact t_M_wantedBy_51 rec5 hrec5 _ _ _ _ _ _ _  hf
    · replace hf := (if_pos c19).symm.trans hf
      refine g_aload_n (pc := 30) 0 dd_M_wantedBy_0.2.2.2.2.2.2.2.2.2.2.2.2.2.2.2.2.2.2.2.2.1 rfl rfl ?_
      refine g_iload_n (pc := 31) 1 dd_M_wantedBy_0.2.2.2.2.2.2.2.2.2.2.2.2.2.2.2.2.2.2.2.2.2.1 rfl rfl ?_
      refine g_iload_n (pc := 32) 3 dd_M_wantedBy_0.2.2.2.2.2.2.2.2.2.2.2.2.2.2.2.2.2.2.2.2.2.2.1 rfl rfl ?_
      obtain ⟨u8, e7, hf⟩ := bd1_e hf
      obtain ⟨x11, h9, e10, hf⟩ := bd2_e hf
      refine g_callV (pc := 33) (ci := 8) [.int b1, .int b3] (site_of si_M_canBreak (by decide) (by decide)) wd_1164 wd_1166 wp_50 dd_M_wantedBy_0.2.2.2.2.2.2.2.2.2.2.2.2.2.2.2.2.2.2.2.2.2.2.2 rfl e7 (Nat.le_of_ble_eq_true rfl) (fun z => absurd z si_na_M_canBreak) (fun z => absurd z si_na_M_canBreak) (fun z => absurd z si_na_M_canBreak) (c_M_canBreak e10) rfl ?_
      refine g_st [.int x11] rfl ?_
      refine g_ifeq (pc := 36) 51 dd_M_wantedBy_36.1 (by decide) (fun c18 => ?_) (fun c18 => ?_)
      · replace hf := (if_pos c18).symm.trans hf
        refine g_lv [0, 1, 2, 3] rfl ?_
        exact t_M_wantedBy_51 rec5 hrec5 _ _ _ _ _ _ _  hf
      · replace hf := (if_neg c18).symm.trans hf
        refine g_aload_n (pc := 39) 0 dd_M_wantedBy_36.2.1 rfl rfl ?_
        refine g_iload_n (pc := 40) 3 dd_M_wantedBy_36.2.2.1 rfl rfl ?_
        obtain ⟨u13, e12, hf⟩ := bd1_e hf
        obtain ⟨x16, h14, e15, hf⟩ := bd2_e hf
        refine g_callV (pc := 41) (ci := 8) [.int b3] (site_of si_M_needOf (by decide) (by decide)) wd_1140 wd_1142 wp_45 dd_M_wantedBy_36.2.2.2.1 rfl e12 (Nat.le_of_ble_eq_true rfl) (fun z => absurd z si_na_M_needOf) (fun z => absurd z si_na_M_needOf) (fun z => absurd z si_na_M_needOf) (c_M_needOf e15) rfl ?_
        refine g_st [.int x16] rfl ?_
        refine g_ifle (pc := 44) 51 dd_M_wantedBy_36.2.2.2.2.1 (by decide) (fun c17 => ?_) (fun c17 => ?_)
        · replace hf := (if_pos c17).symm.trans hf
          refine g_lv [0, 1, 2, 3] rfl ?_
          exact t_M_wantedBy_51 rec5 hrec5 _ _ _ _ _ _ _  hf
        · replace hf := (if_neg c17).symm.trans hf
          refine g_iconst (pc := 47) (1 : Int32) dd_M_wantedBy_36.2.2.2.2.2.1 (by decide) ?_
          refine g_goto (pc := 48) 52 dd_M_wantedBy_36.2.2.2.2.2.2.1 (by decide) ?_
          refine g_lv [0, 1, 2, 3] rfl ?_
          exact t_M_wantedBy_52 rec5 hrec5 _ _ _ _ _ _ _ _  hf
def f_M_wantedBy_5  : Nat → Nat → Int32 → Int32 → Int32 → mH → Option (Int32 × mH)
  | 0 => fun _ _ _ _ _ => none
  | n + 1 => f_M_wantedBy_5b  (f_M_wantedBy_5  n)
theorem t_M_wantedBy_5 {sc : Nat × (Nat → Int32)}  : ∀ (n : Nat) (b0 : Nat) (b1 : Int32) (b2 : Int32) (b3 : Int32) (h : mH) (r : Int32) (h' : mH) (hf : f_M_wantedBy_5  n b0 b1 b2 b3 h = some (r, h')), G sc y_M_wantedBy prog_10_method_67_code 5 (some .int) 4 89 5 [(0, .ref b0), (1, .int b1), (2, .int b2), (3, .int b3)] [] h (some (.int r)) h'
  | 0, _, _, _, _, _, _, _, hf => by cases hf
  | n + 1, _, _, _, _, _, _, _, hf => t_M_wantedBy_5b  (f_M_wantedBy_5  n) (t_M_wantedBy_5  n) _ _ _ _ _ _ _ hf
def f_M_wantedBy_0  (a0 : Nat) (a1 : Int32) (h : mH) : Option (Int32 × mH) :=
  f_M_wantedBy_5  FU a0 a1 ((-4) : Int32) (0 : Int32) h
set_option maxRecDepth 20000 in
theorem t_M_wantedBy_0 {sc : Nat × (Nat → Int32)}  (a0 : Nat) (a1 : Int32) (h : mH) (r : Int32) (h' : mH) (hf : f_M_wantedBy_0  a0 a1 h = some (r, h')) : G sc y_M_wantedBy prog_10_method_67_code 5 (some .int) 4 89 0 [(0, .ref a0), (1, .int a1)] [] h (some (.int r)) h' := by
  unfold f_M_wantedBy_0 at hf
  refine g_bipush (pc := 0) ((-4) : Int32) dd_M_wantedBy_0.1 (by decide) ?_
  refine g_istore_n (pc := 2) [(2, .int ((-4) : Int32)), (0, .ref a0), (1, .int a1)] dd_M_wantedBy_0.2.1 rfl (Nat.le_of_ble_eq_true rfl) rfl ?_
  refine g_iconst (pc := 3) (0 : Int32) dd_M_wantedBy_0.2.2.1 (by decide) ?_
  refine g_istore_n (pc := 4) [(3, .int (0 : Int32)), (2, .int ((-4) : Int32)), (0, .ref a0), (1, .int a1)] dd_M_wantedBy_0.2.2.2.1 rfl (Nat.le_of_ble_eq_true rfl) rfl ?_
  refine g_lv [2, 3, 1, 0] rfl ?_
  exact t_M_wantedBy_5  FU _ _ _ _ _ _ _  hf
def f_M_wantedBy (a0 : Nat) (a1 : Int32) (h : mH) : Option (Int32 × mH) := f_M_wantedBy_0 a0 a1 h
theorem c_M_wantedBy {sc : Nat × (Nat → Int32)} {a0 : Nat} {a1 : Int32} {h : mH} {r : Int32} {h' : mH} (hf : f_M_wantedBy a0 a1 h = some (r, h')) : MM sc y_M_wantedBy prog_10_method_67_code 5 (some .int) 4 89 [.ref a0, .int a1] h (some (.int r)) h' :=
  mm_of_G si_pn_M (Nat.le_of_ble_eq_true rfl) (t_M_wantedBy_0 _ _ _ _ _ hf)
end
/-! 23.model -/
section
/-! M returns ()V -/
set_option maxRecDepth 100000 in
theorem dd_M_returns_0 : (decode prog_10_method_66_code 0 = .ok (.iconst 0, 1)) ∧ (decode prog_10_method_66_code 1 = .ok (.istore_n 1, 1)) ∧ (decode prog_10_method_66_code 2 = .ok (.iload_n 1, 1)) ∧ (decode prog_10_method_66_code 3 = .ok (.bipush 66, 2)) ∧ (decode prog_10_method_66_code 5 = .ok (.if_icmp .ge 21, 3)) ∧ (decode prog_10_method_66_code 8 = .ok (.aload_n 0, 1)) ∧ (decode prog_10_method_66_code 9 = .ok (.getfield 7, 3)) ∧ (decode prog_10_method_66_code 12 = .ok (.iload_n 1, 1)) ∧ (decode prog_10_method_66_code 13 = .ok (.aload_n 0, 1)) ∧ (decode prog_10_method_66_code 14 = .ok (.getfield 65, 3)) ∧ (decode prog_10_method_66_code 17 = .ok (.iload_n 1, 1)) ∧ (decode prog_10_method_66_code 18 = .ok (.iaload, 1)) ∧ (decode prog_10_method_66_code 19 = .ok (.iastore, 1)) ∧ (decode prog_10_method_66_code 20 = .ok (.iinc 1 1, 3)) ∧ (decode prog_10_method_66_code 23 = .ok (.goto (-21), 3)) ∧ (decode prog_10_method_66_code 26 = .ok (.return_, 1)) := by
  have h : List.drop 0 prog_10_method_66_code.data.toList = 0x03 :: _ := rfl
  refine ⟨zq_k_n 3 h rfl (zq_o_3 _), ?_⟩
  replace h := zq_nx1 (q := 1) h rfl
  refine ⟨zq_k_n 60 h rfl (zq_o_60 _), ?_⟩
  replace h := zq_nx1 (q := 2) h rfl
  refine ⟨zq_k_n 27 h rfl (zq_o_27 _), ?_⟩
  replace h := zq_nx1 (q := 3) h rfl
  refine ⟨zq_k_s1 16 (fun z => .bipush z) 66 h rfl (zq_o_16 _) (by decide +kernel), ?_⟩
  replace h := zq_nx2 (q := 5) h rfl
  refine ⟨zq_k_s2 162 (fun z => .if_icmp .ge z) 21 h rfl (zq_o_162 _) (by decide +kernel), ?_⟩
  replace h := zq_nx3 (q := 8) h rfl
  refine ⟨zq_k_n 42 h rfl (zq_o_42 _), ?_⟩
  replace h := zq_nx1 (q := 9) h rfl
  refine ⟨zq_k_u2 180 (fun z => .getfield z) 7 h rfl (zq_o_180 _) (by decide +kernel), ?_⟩
  replace h := zq_nx3 (q := 12) h rfl
  refine ⟨zq_k_n 27 h rfl (zq_o_27 _), ?_⟩
  replace h := zq_nx1 (q := 13) h rfl
  refine ⟨zq_k_n 42 h rfl (zq_o_42 _), ?_⟩
  replace h := zq_nx1 (q := 14) h rfl
  refine ⟨zq_k_u2 180 (fun z => .getfield z) 65 h rfl (zq_o_180 _) (by decide +kernel), ?_⟩
  replace h := zq_nx3 (q := 17) h rfl
  refine ⟨zq_k_n 27 h rfl (zq_o_27 _), ?_⟩
  replace h := zq_nx1 (q := 18) h rfl
  refine ⟨zq_k_n 46 h rfl (zq_o_46 _), ?_⟩
  replace h := zq_nx1 (q := 19) h rfl
  refine ⟨zq_k_n 79 h rfl (zq_o_79 _), ?_⟩
  replace h := zq_nx1 (q := 20) h rfl
  refine ⟨zq_k_iinc 1 1 h rfl (zq_o_132 _) (by decide +kernel) (by decide +kernel), ?_⟩
  replace h := zq_nx3 (q := 23) h rfl
  refine ⟨zq_k_s2 167 (fun z => .goto z) (-21) h rfl (zq_o_167 _) (by decide +kernel), ?_⟩
  replace h := zq_nx3 (q := 26) h rfl
  exact zq_k_n 177 h rfl (zq_o_177 _)
def f_M_returns_2b (rec2 : Nat → Int32 → mH → Option mH) (b0 : Nat) (b1 : Int32) (h : mH) : Option mH :=
  if (66 : Int32) ≤ b1 then
    some h
  else
    bd1 (gR h b0 8 0) fun x1 =>
    bd1 (gR h b0 8 31) fun x3 =>
    bd1 (aI h 0 x3 b1) fun x5 =>
    bd1 (sI h 0 x1 b1 x5) fun h7 =>
    rec2 b0 (b1 + (1 : Int32)) h7
set_option maxRecDepth 20000 in
theorem t_M_returns_2b {sc : Nat × (Nat → Int32)} (rec2 : Nat → Int32 → mH → Option mH) (hrec2 : ∀ (b0 : Nat) (b1 : Int32) (h : mH) (h' : mH), rec2 b0 b1 h = some h' → G sc y_M_returns prog_10_method_66_code 2 none 0 0 2 [(0, .ref b0), (1, .int b1)] [] h none h') (b0 : Nat) (b1 : Int32) (h : mH) (h' : mH) (hf : f_M_returns_2b rec2 b0 b1 h = some h') : G sc y_M_returns prog_10_method_66_code 2 none 0 0 2 [(0, .ref b0), (1, .int b1)] [] h none h' := by
  unfold f_M_returns_2b at hf
  refine g_iload_n (pc := 2) 1 dd_M_returns_0.2.2.1 rfl rfl ?_
  refine g_bipush (pc := 3) (66 : Int32) dd_M_returns_0.2.2.2.1 (by decide) ?_
  refine g_icmpge (pc := 5) 26 dd_M_returns_0.2.2.2.2.1 (by decide) (fun c9 => ?_) (fun c9 => ?_)
  · replace hf := (if_pos c9).symm.trans hf
    obtain rfl := ret1 hf
    exact g_vret (pc := 26) rfl dd_M_returns_0.2.2.2.2.2.2.2.2.2.2.2.2.2.2.2
  · replace hf := (if_neg c9).symm.trans hf
    refine g_aload_n (pc := 8) 0 dd_M_returns_0.2.2.2.2.2.1 rfl rfl ?_
    obtain ⟨x1, e2, hf⟩ := bd1_e hf
    refine g_get (pc := 9) (ci := 8) (kk := 0) dd_M_returns_0.2.2.2.2.2.2.1 rfl in_M (by decide) wd_938 (gR_spec e2) ?_
    refine g_iload_n (pc := 12) 1 dd_M_returns_0.2.2.2.2.2.2.2.1 rfl rfl ?_
    refine g_aload_n (pc := 13) 0 dd_M_returns_0.2.2.2.2.2.2.2.2.1 rfl rfl ?_
    obtain ⟨x3, e4, hf⟩ := bd1_e hf
    refine g_get (pc := 14) (ci := 8) (kk := 31) dd_M_returns_0.2.2.2.2.2.2.2.2.2.1 rfl in_M (by decide) wd_969 (gR_spec e4) ?_
    refine g_iload_n (pc := 17) 1 dd_M_returns_0.2.2.2.2.2.2.2.2.2.2.1 rfl rfl ?_
    obtain ⟨x5, e6, hf⟩ := bd1_e hf
    refine g_iald (pc := 18) dd_M_returns_0.2.2.2.2.2.2.2.2.2.2.2.1 e6 ?_
    obtain ⟨h7, e8, hf⟩ := bd1_e hf
    refine g_iast (pc := 19) dd_M_returns_0.2.2.2.2.2.2.2.2.2.2.2.2.1 e8 ?_
    refine g_iinc (pc := 20) 1 (b1 + (1 : Int32)) [(1, .int (b1 + (1 : Int32))), (0, .ref b0)] dd_M_returns_0.2.2.2.2.2.2.2.2.2.2.2.2.2.1 rfl rfl (Nat.le_of_ble_eq_true rfl) rfl ?_
    refine g_goto (pc := 23) 2 dd_M_returns_0.2.2.2.2.2.2.2.2.2.2.2.2.2.2.1 (by decide) ?_
    refine g_lv [1, 0] rfl ?_
    exact hrec2 _ _ _ _  hf
def f_M_returns_2  : Nat → Nat → Int32 → mH → Option mH
  | 0 => fun _ _ _ => none
  | n + 1 => f_M_returns_2b  (f_M_returns_2  n)
theorem t_M_returns_2 {sc : Nat × (Nat → Int32)}  : ∀ (n : Nat) (b0 : Nat) (b1 : Int32) (h : mH) (h' : mH) (hf : f_M_returns_2  n b0 b1 h = some h'), G sc y_M_returns prog_10_method_66_code 2 none 0 0 2 [(0, .ref b0), (1, .int b1)] [] h none h'
  | 0, _, _, _, _, hf => by cases hf
  | n + 1, _, _, _, _, hf => t_M_returns_2b  (f_M_returns_2  n) (t_M_returns_2  n) _ _ _ _ hf
def f_M_returns_0  (a0 : Nat) (h : mH) : Option mH :=
  f_M_returns_2  FU a0 (0 : Int32) h
set_option maxRecDepth 20000 in
theorem t_M_returns_0 {sc : Nat × (Nat → Int32)}  (a0 : Nat) (h : mH) (h' : mH) (hf : f_M_returns_0  a0 h = some h') : G sc y_M_returns prog_10_method_66_code 2 none 0 0 0 [(0, .ref a0)] [] h none h' := by
  unfold f_M_returns_0 at hf
  refine g_iconst (pc := 0) (0 : Int32) dd_M_returns_0.1 (by decide) ?_
  refine g_istore_n (pc := 1) [(1, .int (0 : Int32)), (0, .ref a0)] dd_M_returns_0.2.1 rfl (Nat.le_of_ble_eq_true rfl) rfl ?_
  refine g_lv [1, 0] rfl ?_
  exact t_M_returns_2  FU _ _ _ _  hf
def f_M_returns (a0 : Nat) (h : mH) : Option mH := f_M_returns_0 a0 h
theorem c_M_returns {sc : Nat × (Nat → Int32)} {a0 : Nat} {h : mH} {h' : mH} (hf : f_M_returns a0 h = some h') : MM sc y_M_returns prog_10_method_66_code 2 none 0 0 [.ref a0] h none h' :=
  mm_of_G si_pn_M (Nat.le_of_ble_eq_true rfl) (t_M_returns_0 _ _ _ hf)
/-! M selfish (I)I -/
set_option maxRecDepth 100000 in
theorem dd_M_selfish_0 : (decode prog_10_method_68_code 0 = .ok (.iload_n 1, 1)) ∧ (decode prog_10_method_68_code 1 = .ok (.i2l, 1)) ∧ (decode prog_10_method_68_code 2 = .ok (.lconst 0, 1)) ∧ (decode prog_10_method_68_code 3 = .ok (.ldc2_w 273, 3)) ∧ (decode prog_10_method_68_code 6 = .ok (.invokestatic 114, 3)) ∧ (decode prog_10_method_68_code 9 = .ok (.ifCond .ne 5, 3)) ∧ (decode prog_10_method_68_code 12 = .ok (.iconst (-1), 1)) ∧ (decode prog_10_method_68_code 13 = .ok (.ireturn, 1)) ∧ (decode prog_10_method_68_code 14 = .ok (.aload_n 0, 1)) ∧ (decode prog_10_method_68_code 15 = .ok (.invokevirtual 275, 3)) ∧ (decode prog_10_method_68_code 18 = .ok (.iconst 0, 1)) ∧ (decode prog_10_method_68_code 19 = .ok (.istore_n 2, 1)) ∧ (decode prog_10_method_68_code 20 = .ok (.iconst 0, 1)) ∧ (decode prog_10_method_68_code 21 = .ok (.istore_n 3, 1)) ∧ (decode prog_10_method_68_code 22 = .ok (.iconst 1, 1)) ∧ (decode prog_10_method_68_code 23 = .ok (.istore 4, 2)) ∧ (decode prog_10_method_68_code 25 = .ok (.iload 4, 2)) ∧ (decode prog_10_method_68_code 27 = .ok (.ifCond .eq 85, 3)) ∧ (decode prog_10_method_68_code 30 = .ok (.iconst 0, 1)) ∧ (decode prog_10_method_68_code 31 = .ok (.istore 4, 2)) ∧ (decode prog_10_method_68_code 33 = .ok (.iconst 0, 1)) ∧ (decode prog_10_method_68_code 34 = .ok (.istore 5, 2)) ∧ (decode prog_10_method_68_code 36 = .ok (.iload 5, 2)) ∧ (decode prog_10_method_68_code 38 = .ok (.aload_n 0, 1)) := by
  have h : List.drop 0 prog_10_method_68_code.data.toList = 0x1b :: _ := rfl
  refine ⟨zq_k_n 27 h rfl (zq_o_27 _), ?_⟩
  replace h := zq_nx1 (q := 1) h rfl
  refine ⟨zq_k_n 133 h rfl (zq_o_133 _), ?_⟩
  replace h := zq_nx1 (q := 2) h rfl
  refine ⟨zq_k_n 9 h rfl (zq_o_9 _), ?_⟩
  replace h := zq_nx1 (q := 3) h rfl
  refine ⟨zq_k_u2 20 (fun z => .ldc2_w z) 273 h rfl (zq_o_20 _) (by decide +kernel), ?_⟩
  replace h := zq_nx3 (q := 6) h rfl
  refine ⟨zq_k_u2 184 (fun z => .invokestatic z) 114 h rfl (zq_o_184 _) (by decide +kernel), ?_⟩
  replace h := zq_nx3 (q := 9) h rfl
  refine ⟨zq_k_s2 154 (fun z => .ifCond .ne z) 5 h rfl (zq_o_154 _) (by decide +kernel), ?_⟩
  replace h := zq_nx3 (q := 12) h rfl
  refine ⟨zq_k_n 2 h rfl (zq_o_2 _), ?_⟩
  replace h := zq_nx1 (q := 13) h rfl
  refine ⟨zq_k_n 172 h rfl (zq_o_172 _), ?_⟩
  replace h := zq_nx1 (q := 14) h rfl
  refine ⟨zq_k_n 42 h rfl (zq_o_42 _), ?_⟩
  replace h := zq_nx1 (q := 15) h rfl
  refine ⟨zq_k_u2 182 (fun z => .invokevirtual z) 275 h rfl (zq_o_182 _) (by decide +kernel), ?_⟩
  replace h := zq_nx3 (q := 18) h rfl
  refine ⟨zq_k_n 3 h rfl (zq_o_3 _), ?_⟩
  replace h := zq_nx1 (q := 19) h rfl
  refine ⟨zq_k_n 61 h rfl (zq_o_61 _), ?_⟩
  replace h := zq_nx1 (q := 20) h rfl
  refine ⟨zq_k_n 3 h rfl (zq_o_3 _), ?_⟩
  replace h := zq_nx1 (q := 21) h rfl
  refine ⟨zq_k_n 62 h rfl (zq_o_62 _), ?_⟩
  replace h := zq_nx1 (q := 22) h rfl
  refine ⟨zq_k_n 4 h rfl (zq_o_4 _), ?_⟩
  replace h := zq_nx1 (q := 23) h rfl
  refine ⟨zq_k_u1 54 (fun z => .istore z) 4 h rfl (zq_o_54 _) (by decide +kernel), ?_⟩
  replace h := zq_nx2 (q := 25) h rfl
  refine ⟨zq_k_u1 21 (fun z => .iload z) 4 h rfl (zq_o_21 _) (by decide +kernel), ?_⟩
  replace h := zq_nx2 (q := 27) h rfl
  refine ⟨zq_k_s2 153 (fun z => .ifCond .eq z) 85 h rfl (zq_o_153 _) (by decide +kernel), ?_⟩
  replace h := zq_nx3 (q := 30) h rfl
  refine ⟨zq_k_n 3 h rfl (zq_o_3 _), ?_⟩
  replace h := zq_nx1 (q := 31) h rfl
  refine ⟨zq_k_u1 54 (fun z => .istore z) 4 h rfl (zq_o_54 _) (by decide +kernel), ?_⟩
  replace h := zq_nx2 (q := 33) h rfl
  refine ⟨zq_k_n 3 h rfl (zq_o_3 _), ?_⟩
  replace h := zq_nx1 (q := 34) h rfl
  refine ⟨zq_k_u1 54 (fun z => .istore z) 5 h rfl (zq_o_54 _) (by decide +kernel), ?_⟩
  replace h := zq_nx2 (q := 36) h rfl
  refine ⟨zq_k_u1 21 (fun z => .iload z) 5 h rfl (zq_o_21 _) (by decide +kernel), ?_⟩
  replace h := zq_nx2 (q := 38) h rfl
  exact zq_k_n 42 h rfl (zq_o_42 _)
set_option maxRecDepth 100000 in
theorem dd_M_selfish_39 : (decode prog_10_method_68_code 39 = .ok (.getfield 109, 3)) ∧ (decode prog_10_method_68_code 42 = .ok (.if_icmp .ge 67, 3)) ∧ (decode prog_10_method_68_code 45 = .ok (.aload_n 0, 1)) ∧ (decode prog_10_method_68_code 46 = .ok (.iload 5, 2)) ∧ (decode prog_10_method_68_code 48 = .ok (.invokevirtual 278, 3)) ∧ (decode prog_10_method_68_code 51 = .ok (.istore 6, 2)) ∧ (decode prog_10_method_68_code 53 = .ok (.iload 6, 2)) ∧ (decode prog_10_method_68_code 55 = .ok (.bipush (-4), 2)) ∧ (decode prog_10_method_68_code 57 = .ok (.if_icmp .eq 46, 3)) ∧ (decode prog_10_method_68_code 60 = .ok (.aload_n 0, 1)) ∧ (decode prog_10_method_68_code 61 = .ok (.getfield 7, 3)) ∧ (decode prog_10_method_68_code 64 = .ok (.bipush 24, 2)) ∧ (decode prog_10_method_68_code 66 = .ok (.iconst 5, 1)) ∧ (decode prog_10_method_68_code 67 = .ok (.iload 5, 2)) ∧ (decode prog_10_method_68_code 69 = .ok (.imul, 1)) ∧ (decode prog_10_method_68_code 70 = .ok (.iadd, 1)) ∧ (decode prog_10_method_68_code 71 = .ok (.iload 6, 2)) ∧ (decode prog_10_method_68_code 73 = .ok (.iadd, 1)) ∧ (decode prog_10_method_68_code 74 = .ok (.dup2, 1)) ∧ (decode prog_10_method_68_code 75 = .ok (.iaload, 1)) ∧ (decode prog_10_method_68_code 76 = .ok (.iconst 1, 1)) ∧ (decode prog_10_method_68_code 77 = .ok (.iadd, 1)) ∧ (decode prog_10_method_68_code 78 = .ok (.iastore, 1)) ∧ (decode prog_10_method_68_code 79 = .ok (.iinc 2 1, 3)) := by
  have h : List.drop 39 prog_10_method_68_code.data.toList = 0xb4 :: _ := rfl
  refine ⟨zq_k_u2 180 (fun z => .getfield z) 109 h rfl (zq_o_180 _) (by decide +kernel), ?_⟩
  replace h := zq_nx3 (q := 42) h rfl
  refine ⟨zq_k_s2 162 (fun z => .if_icmp .ge z) 67 h rfl (zq_o_162 _) (by decide +kernel), ?_⟩
  replace h := zq_nx3 (q := 45) h rfl
  refine ⟨zq_k_n 42 h rfl (zq_o_42 _), ?_⟩
  replace h := zq_nx1 (q := 46) h rfl
  refine ⟨zq_k_u1 21 (fun z => .iload z) 5 h rfl (zq_o_21 _) (by decide +kernel), ?_⟩
  replace h := zq_nx2 (q := 48) h rfl
  refine ⟨zq_k_u2 182 (fun z => .invokevirtual z) 278 h rfl (zq_o_182 _) (by decide +kernel), ?_⟩
  replace h := zq_nx3 (q := 51) h rfl
  refine ⟨zq_k_u1 54 (fun z => .istore z) 6 h rfl (zq_o_54 _) (by decide +kernel), ?_⟩
  replace h := zq_nx2 (q := 53) h rfl
  refine ⟨zq_k_u1 21 (fun z => .iload z) 6 h rfl (zq_o_21 _) (by decide +kernel), ?_⟩
  replace h := zq_nx2 (q := 55) h rfl
  refine ⟨zq_k_s1 16 (fun z => .bipush z) (-4) h rfl (zq_o_16 _) (by decide +kernel), ?_⟩
  replace h := zq_nx2 (q := 57) h rfl
  refine ⟨zq_k_s2 159 (fun z => .if_icmp .eq z) 46 h rfl (zq_o_159 _) (by decide +kernel), ?_⟩
  replace h := zq_nx3 (q := 60) h rfl
  refine ⟨zq_k_n 42 h rfl (zq_o_42 _), ?_⟩
  replace h := zq_nx1 (q := 61) h rfl
  refine ⟨zq_k_u2 180 (fun z => .getfield z) 7 h rfl (zq_o_180 _) (by decide +kernel), ?_⟩
  replace h := zq_nx3 (q := 64) h rfl
  refine ⟨zq_k_s1 16 (fun z => .bipush z) 24 h rfl (zq_o_16 _) (by decide +kernel), ?_⟩
  replace h := zq_nx2 (q := 66) h rfl
  refine ⟨zq_k_n 8 h rfl (zq_o_8 _), ?_⟩
  replace h := zq_nx1 (q := 67) h rfl
  refine ⟨zq_k_u1 21 (fun z => .iload z) 5 h rfl (zq_o_21 _) (by decide +kernel), ?_⟩
  replace h := zq_nx2 (q := 69) h rfl
  refine ⟨zq_k_n 104 h rfl (zq_o_104 _), ?_⟩
  replace h := zq_nx1 (q := 70) h rfl
  refine ⟨zq_k_n 96 h rfl (zq_o_96 _), ?_⟩
  replace h := zq_nx1 (q := 71) h rfl
  refine ⟨zq_k_u1 21 (fun z => .iload z) 6 h rfl (zq_o_21 _) (by decide +kernel), ?_⟩
  replace h := zq_nx2 (q := 73) h rfl
  refine ⟨zq_k_n 96 h rfl (zq_o_96 _), ?_⟩
  replace h := zq_nx1 (q := 74) h rfl
  refine ⟨zq_k_n 92 h rfl (zq_o_92 _), ?_⟩
  replace h := zq_nx1 (q := 75) h rfl
  refine ⟨zq_k_n 46 h rfl (zq_o_46 _), ?_⟩
  replace h := zq_nx1 (q := 76) h rfl
  refine ⟨zq_k_n 4 h rfl (zq_o_4 _), ?_⟩
  replace h := zq_nx1 (q := 77) h rfl
  refine ⟨zq_k_n 96 h rfl (zq_o_96 _), ?_⟩
  replace h := zq_nx1 (q := 78) h rfl
  refine ⟨zq_k_n 79 h rfl (zq_o_79 _), ?_⟩
  replace h := zq_nx1 (q := 79) h rfl
  exact zq_k_iinc 2 1 h rfl (zq_o_132 _) (by decide +kernel) (by decide +kernel)
set_option maxRecDepth 100000 in
theorem dd_M_selfish_82 : (decode prog_10_method_68_code 82 = .ok (.iload_n 3, 1)) ∧ (decode prog_10_method_68_code 83 = .ok (.aload_n 0, 1)) ∧ (decode prog_10_method_68_code 84 = .ok (.getfield 20, 3)) ∧ (decode prog_10_method_68_code 87 = .ok (.iload 6, 2)) ∧ (decode prog_10_method_68_code 89 = .ok (.iaload, 1)) ∧ (decode prog_10_method_68_code 90 = .ok (.aload_n 0, 1)) ∧ (decode prog_10_method_68_code 91 = .ok (.getfield 26, 3)) ∧ (decode prog_10_method_68_code 94 = .ok (.iload 5, 2)) ∧ (decode prog_10_method_68_code 96 = .ok (.iaload, 1)) ∧ (decode prog_10_method_68_code 97 = .ok (.iadd, 1)) ∧ (decode prog_10_method_68_code 98 = .ok (.iadd, 1)) ∧ (decode prog_10_method_68_code 99 = .ok (.istore_n 3, 1)) ∧ (decode prog_10_method_68_code 100 = .ok (.iconst 1, 1)) ∧ (decode prog_10_method_68_code 101 = .ok (.istore 4, 2)) ∧ (decode prog_10_method_68_code 103 = .ok (.iinc 5 1, 3)) ∧ (decode prog_10_method_68_code 106 = .ok (.goto (-70), 3)) ∧ (decode prog_10_method_68_code 109 = .ok (.goto (-84), 3)) ∧ (decode prog_10_method_68_code 112 = .ok (.iconst 0, 1)) ∧ (decode prog_10_method_68_code 113 = .ok (.istore 5, 2)) ∧ (decode prog_10_method_68_code 115 = .ok (.iconst 0, 1)) ∧ (decode prog_10_method_68_code 116 = .ok (.istore 6, 2)) ∧ (decode prog_10_method_68_code 118 = .ok (.iload 6, 2)) ∧ (decode prog_10_method_68_code 120 = .ok (.aload_n 0, 1)) ∧ (decode prog_10_method_68_code 121 = .ok (.getfield 106, 3)) := by
  have h : List.drop 82 prog_10_method_68_code.data.toList = 0x1d :: _ := rfl
  refine ⟨zq_k_n 29 h rfl (zq_o_29 _), ?_⟩
  replace h := zq_nx1 (q := 83) h rfl
  refine ⟨zq_k_n 42 h rfl (zq_o_42 _), ?_⟩
  replace h := zq_nx1 (q := 84) h rfl
  refine ⟨zq_k_u2 180 (fun z => .getfield z) 20 h rfl (zq_o_180 _) (by decide +kernel), ?_⟩
  replace h := zq_nx3 (q := 87) h rfl
  refine ⟨zq_k_u1 21 (fun z => .iload z) 6 h rfl (zq_o_21 _) (by decide +kernel), ?_⟩
  replace h := zq_nx2 (q := 89) h rfl
  refine ⟨zq_k_n 46 h rfl (zq_o_46 _), ?_⟩
  replace h := zq_nx1 (q := 90) h rfl
  refine ⟨zq_k_n 42 h rfl (zq_o_42 _), ?_⟩
  replace h := zq_nx1 (q := 91) h rfl
  refine ⟨zq_k_u2 180 (fun z => .getfield z) 26 h rfl (zq_o_180 _) (by decide +kernel), ?_⟩
  replace h := zq_nx3 (q := 94) h rfl
  refine ⟨zq_k_u1 21 (fun z => .iload z) 5 h rfl (zq_o_21 _) (by decide +kernel), ?_⟩
  replace h := zq_nx2 (q := 96) h rfl
  refine ⟨zq_k_n 46 h rfl (zq_o_46 _), ?_⟩
  replace h := zq_nx1 (q := 97) h rfl
  refine ⟨zq_k_n 96 h rfl (zq_o_96 _), ?_⟩
  replace h := zq_nx1 (q := 98) h rfl
  refine ⟨zq_k_n 96 h rfl (zq_o_96 _), ?_⟩
  replace h := zq_nx1 (q := 99) h rfl
  refine ⟨zq_k_n 62 h rfl (zq_o_62 _), ?_⟩
  replace h := zq_nx1 (q := 100) h rfl
  refine ⟨zq_k_n 4 h rfl (zq_o_4 _), ?_⟩
  replace h := zq_nx1 (q := 101) h rfl
  refine ⟨zq_k_u1 54 (fun z => .istore z) 4 h rfl (zq_o_54 _) (by decide +kernel), ?_⟩
  replace h := zq_nx2 (q := 103) h rfl
  refine ⟨zq_k_iinc 5 1 h rfl (zq_o_132 _) (by decide +kernel) (by decide +kernel), ?_⟩
  replace h := zq_nx3 (q := 106) h rfl
  refine ⟨zq_k_s2 167 (fun z => .goto z) (-70) h rfl (zq_o_167 _) (by decide +kernel), ?_⟩
  replace h := zq_nx3 (q := 109) h rfl
  refine ⟨zq_k_s2 167 (fun z => .goto z) (-84) h rfl (zq_o_167 _) (by decide +kernel), ?_⟩
  replace h := zq_nx3 (q := 112) h rfl
  refine ⟨zq_k_n 3 h rfl (zq_o_3 _), ?_⟩
  replace h := zq_nx1 (q := 113) h rfl
  refine ⟨zq_k_u1 54 (fun z => .istore z) 5 h rfl (zq_o_54 _) (by decide +kernel), ?_⟩
  replace h := zq_nx2 (q := 115) h rfl
  refine ⟨zq_k_n 3 h rfl (zq_o_3 _), ?_⟩
  replace h := zq_nx1 (q := 116) h rfl
  refine ⟨zq_k_u1 54 (fun z => .istore z) 6 h rfl (zq_o_54 _) (by decide +kernel), ?_⟩
  replace h := zq_nx2 (q := 118) h rfl
  refine ⟨zq_k_u1 21 (fun z => .iload z) 6 h rfl (zq_o_21 _) (by decide +kernel), ?_⟩
  replace h := zq_nx2 (q := 120) h rfl
  refine ⟨zq_k_n 42 h rfl (zq_o_42 _), ?_⟩
  replace h := zq_nx1 (q := 121) h rfl
  exact zq_k_u2 180 (fun z => .getfield z) 106 h rfl (zq_o_180 _) (by decide +kernel)
set_option maxRecDepth 100000 in
theorem dd_M_selfish_124 : (decode prog_10_method_68_code 124 = .ok (.if_icmp .ge 43, 3)) ∧ (decode prog_10_method_68_code 127 = .ok (.iload 5, 2)) ∧ (decode prog_10_method_68_code 129 = .ok (.aload_n 0, 1)) ∧ (decode prog_10_method_68_code 130 = .ok (.iload 6, 2)) ∧ (decode prog_10_method_68_code 132 = .ok (.invokevirtual 191, 3)) ∧ (decode prog_10_method_68_code 135 = .ok (.ifCond .eq 16, 3)) ∧ (decode prog_10_method_68_code 138 = .ok (.aload_n 0, 1)) ∧ (decode prog_10_method_68_code 139 = .ok (.iload 6, 2)) ∧ (decode prog_10_method_68_code 141 = .ok (.invokevirtual 204, 3)) ∧ (decode prog_10_method_68_code 144 = .ok (.ifCond .ne 7, 3)) ∧ (decode prog_10_method_68_code 147 = .ok (.iconst 1, 1)) ∧ (decode prog_10_method_68_code 148 = .ok (.goto 4, 3)) ∧ (decode prog_10_method_68_code 151 = .ok (.iconst 0, 1)) ∧ (decode prog_10_method_68_code 152 = .ok (.invokestatic 220, 3)) ∧ (decode prog_10_method_68_code 155 = .ok (.iload 6, 2)) ∧ (decode prog_10_method_68_code 157 = .ok (.ishl, 1)) ∧ (decode prog_10_method_68_code 158 = .ok (.ior, 1)) ∧ (decode prog_10_method_68_code 159 = .ok (.istore 5, 2)) ∧ (decode prog_10_method_68_code 161 = .ok (.iinc 6 1, 3)) ∧ (decode prog_10_method_68_code 164 = .ok (.goto (-46), 3)) ∧ (decode prog_10_method_68_code 167 = .ok (.aload_n 0, 1)) ∧ (decode prog_10_method_68_code 168 = .ok (.invokevirtual 281, 3)) ∧ (decode prog_10_method_68_code 171 = .ok (.iload_n 1, 1)) ∧ (decode prog_10_method_68_code 172 = .ok (.ifCond .ne 8, 3)) := by
  have h : List.drop 124 prog_10_method_68_code.data.toList = 0xa2 :: _ := rfl
  refine ⟨zq_k_s2 162 (fun z => .if_icmp .ge z) 43 h rfl (zq_o_162 _) (by decide +kernel), ?_⟩
  replace h := zq_nx3 (q := 127) h rfl
  refine ⟨zq_k_u1 21 (fun z => .iload z) 5 h rfl (zq_o_21 _) (by decide +kernel), ?_⟩
  replace h := zq_nx2 (q := 129) h rfl
  refine ⟨zq_k_n 42 h rfl (zq_o_42 _), ?_⟩
  replace h := zq_nx1 (q := 130) h rfl
  refine ⟨zq_k_u1 21 (fun z => .iload z) 6 h rfl (zq_o_21 _) (by decide +kernel), ?_⟩
  replace h := zq_nx2 (q := 132) h rfl
  refine ⟨zq_k_u2 182 (fun z => .invokevirtual z) 191 h rfl (zq_o_182 _) (by decide +kernel), ?_⟩
  replace h := zq_nx3 (q := 135) h rfl
  refine ⟨zq_k_s2 153 (fun z => .ifCond .eq z) 16 h rfl (zq_o_153 _) (by decide +kernel), ?_⟩
  replace h := zq_nx3 (q := 138) h rfl
  refine ⟨zq_k_n 42 h rfl (zq_o_42 _), ?_⟩
  replace h := zq_nx1 (q := 139) h rfl
  refine ⟨zq_k_u1 21 (fun z => .iload z) 6 h rfl (zq_o_21 _) (by decide +kernel), ?_⟩
  replace h := zq_nx2 (q := 141) h rfl
  refine ⟨zq_k_u2 182 (fun z => .invokevirtual z) 204 h rfl (zq_o_182 _) (by decide +kernel), ?_⟩
  replace h := zq_nx3 (q := 144) h rfl
  refine ⟨zq_k_s2 154 (fun z => .ifCond .ne z) 7 h rfl (zq_o_154 _) (by decide +kernel), ?_⟩
  replace h := zq_nx3 (q := 147) h rfl
  refine ⟨zq_k_n 4 h rfl (zq_o_4 _), ?_⟩
  replace h := zq_nx1 (q := 148) h rfl
  refine ⟨zq_k_s2 167 (fun z => .goto z) 4 h rfl (zq_o_167 _) (by decide +kernel), ?_⟩
  replace h := zq_nx3 (q := 151) h rfl
  refine ⟨zq_k_n 3 h rfl (zq_o_3 _), ?_⟩
  replace h := zq_nx1 (q := 152) h rfl
  refine ⟨zq_k_u2 184 (fun z => .invokestatic z) 220 h rfl (zq_o_184 _) (by decide +kernel), ?_⟩
  replace h := zq_nx3 (q := 155) h rfl
  refine ⟨zq_k_u1 21 (fun z => .iload z) 6 h rfl (zq_o_21 _) (by decide +kernel), ?_⟩
  replace h := zq_nx2 (q := 157) h rfl
  refine ⟨zq_k_n 120 h rfl (zq_o_120 _), ?_⟩
  replace h := zq_nx1 (q := 158) h rfl
  refine ⟨zq_k_n 128 h rfl (zq_o_128 _), ?_⟩
  replace h := zq_nx1 (q := 159) h rfl
  refine ⟨zq_k_u1 54 (fun z => .istore z) 5 h rfl (zq_o_54 _) (by decide +kernel), ?_⟩
  replace h := zq_nx2 (q := 161) h rfl
  refine ⟨zq_k_iinc 6 1 h rfl (zq_o_132 _) (by decide +kernel) (by decide +kernel), ?_⟩
  replace h := zq_nx3 (q := 164) h rfl
  refine ⟨zq_k_s2 167 (fun z => .goto z) (-46) h rfl (zq_o_167 _) (by decide +kernel), ?_⟩
  replace h := zq_nx3 (q := 167) h rfl
  refine ⟨zq_k_n 42 h rfl (zq_o_42 _), ?_⟩
  replace h := zq_nx1 (q := 168) h rfl
  refine ⟨zq_k_u2 182 (fun z => .invokevirtual z) 281 h rfl (zq_o_182 _) (by decide +kernel), ?_⟩
  replace h := zq_nx3 (q := 171) h rfl
  refine ⟨zq_k_n 27 h rfl (zq_o_27 _), ?_⟩
  replace h := zq_nx1 (q := 172) h rfl
  exact zq_k_s2 154 (fun z => .ifCond .ne z) 8 h rfl (zq_o_154 _) (by decide +kernel)
set_option maxRecDepth 100000 in
theorem dd_M_selfish_175 : (decode prog_10_method_68_code 175 = .ok (.iload 5, 2)) ∧ (decode prog_10_method_68_code 177 = .ok (.goto 13, 3)) ∧ (decode prog_10_method_68_code 180 = .ok (.iload_n 1, 1)) ∧ (decode prog_10_method_68_code 181 = .ok (.iconst 1, 1)) ∧ (decode prog_10_method_68_code 182 = .ok (.if_icmp .ne 7, 3)) ∧ (decode prog_10_method_68_code 185 = .ok (.iload_n 2, 1)) ∧ (decode prog_10_method_68_code 186 = .ok (.goto 4, 3)) ∧ (decode prog_10_method_68_code 189 = .ok (.iload_n 3, 1)) ∧ (decode prog_10_method_68_code 190 = .ok (.ireturn, 1)) := by
  have h : List.drop 175 prog_10_method_68_code.data.toList = 0x15 :: _ := rfl
  refine ⟨zq_k_u1 21 (fun z => .iload z) 5 h rfl (zq_o_21 _) (by decide +kernel), ?_⟩
  replace h := zq_nx2 (q := 177) h rfl
  refine ⟨zq_k_s2 167 (fun z => .goto z) 13 h rfl (zq_o_167 _) (by decide +kernel), ?_⟩
  replace h := zq_nx3 (q := 180) h rfl
  refine ⟨zq_k_n 27 h rfl (zq_o_27 _), ?_⟩
  replace h := zq_nx1 (q := 181) h rfl
  refine ⟨zq_k_n 4 h rfl (zq_o_4 _), ?_⟩
  replace h := zq_nx1 (q := 182) h rfl
  refine ⟨zq_k_s2 160 (fun z => .if_icmp .ne z) 7 h rfl (zq_o_160 _) (by decide +kernel), ?_⟩
  replace h := zq_nx3 (q := 185) h rfl
  refine ⟨zq_k_n 28 h rfl (zq_o_28 _), ?_⟩
  replace h := zq_nx1 (q := 186) h rfl
  refine ⟨zq_k_s2 167 (fun z => .goto z) 4 h rfl (zq_o_167 _) (by decide +kernel), ?_⟩
  replace h := zq_nx3 (q := 189) h rfl
  refine ⟨zq_k_n 29 h rfl (zq_o_29 _), ?_⟩
  replace h := zq_nx1 (q := 190) h rfl
  exact zq_k_n 172 h rfl (zq_o_172 _)
def f_M_selfish_152 (rec118 : Nat → Int32 → Int32 → Int32 → Int32 → Int32 → mH → Option (Int32 × mH)) (b0 : Nat) (b1 : Int32) (b2 : Int32) (b3 : Int32) (b6 : Int32) (s0 : Int32) (s1 : Int32) (h : mH) : Option (Int32 × mH) :=
  bd2 (f_M_flag s1 h) fun x56 h54 =>
  rec118 b0 b1 b2 b3 (s0 ||| (x56 <<< (b6 &&& 31))) (b6 + (1 : Int32)) h54
set_option maxRecDepth 20000 in
theorem t_M_selfish_152 {sc : Nat × (Nat → Int32)} (rec118 : Nat → Int32 → Int32 → Int32 → Int32 → Int32 → mH → Option (Int32 × mH)) (hrec118 : ∀ (b0 : Nat) (b1 : Int32) (b2 : Int32) (b3 : Int32) (b5 : Int32) (b6 : Int32) (h : mH) (r : Int32) (h' : mH), rec118 b0 b1 b2 b3 b5 b6 h = some (r, h') → G sc y_M_selfish prog_10_method_68_code 7 (some .int) 5 113 118 [(0, .ref b0), (1, .int b1), (2, .int b2), (3, .int b3), (5, .int b5), (6, .int b6)] [] h (some (.int r)) h') (b0 : Nat) (b1 : Int32) (b2 : Int32) (b3 : Int32) (b6 : Int32) (s0 : Int32) (s1 : Int32) (h : mH) (r : Int32) (h' : mH) (hf : f_M_selfish_152 rec118 b0 b1 b2 b3 b6 s0 s1 h = some (r, h')) : G sc y_M_selfish prog_10_method_68_code 7 (some .int) 5 113 152 [(0, .ref b0), (1, .int b1), (2, .int b2), (3, .int b3), (6, .int b6)] [.int s1, .int s0] h (some (.int r)) h' := by
  unfold f_M_selfish_152 at hf
  obtain ⟨x56, h54, e55, hf⟩ := bd2_e hf
  refine g_callS (pc := 152) [.int s1] (site_of si_M_flag (by decide) (by decide)) wd_1180 wd_1181 dd_M_selfish_124.2.2.2.2.2.2.2.2.2.2.2.2.2.1 (Nat.le_of_ble_eq_true rfl) (fun z => absurd z si_na_M_flag) (fun z => absurd z si_na_M_flag) (fun z => absurd z si_na_M_flag) (c_M_flag e55) rfl ?_
  refine g_st [.int x56, .int s0] rfl ?_
  refine g_iload (pc := 155) 4 dd_M_selfish_124.2.2.2.2.2.2.2.2.2.2.2.2.2.2.1 rfl ?_
  refine g_ishl (pc := 157) dd_M_selfish_124.2.2.2.2.2.2.2.2.2.2.2.2.2.2.2.1 ?_
  refine g_ior (pc := 158) dd_M_selfish_124.2.2.2.2.2.2.2.2.2.2.2.2.2.2.2.2.1 ?_
  refine g_istore (pc := 159) [(5, .int (s0 ||| (x56 <<< (b6 &&& 31)))), (0, .ref b0), (1, .int b1), (2, .int b2), (3, .int b3), (6, .int b6)] dd_M_selfish_124.2.2.2.2.2.2.2.2.2.2.2.2.2.2.2.2.2.1 (Nat.le_of_ble_eq_true rfl) rfl ?_
  refine g_iinc (pc := 161) 5 (b6 + (1 : Int32)) [(6, .int (b6 + (1 : Int32))), (5, .int (s0 ||| (x56 <<< (b6 &&& 31)))), (0, .ref b0), (1, .int b1), (2, .int b2), (3, .int b3)] dd_M_selfish_124.2.2.2.2.2.2.2.2.2.2.2.2.2.2.2.2.2.2.1 rfl rfl (Nat.le_of_ble_eq_true rfl) rfl ?_
  refine g_goto (pc := 164) 118 dd_M_selfish_124.2.2.2.2.2.2.2.2.2.2.2.2.2.2.2.2.2.2.2.1 (by decide) ?_
  refine g_lv [2, 3, 4, 5, 1, 0] rfl ?_
  exact hrec118 _ _ _ _ _ _ _ _ _  hf
def f_M_selfish_151 (rec118 : Nat → Int32 → Int32 → Int32 → Int32 → Int32 → mH → Option (Int32 × mH)) (b0 : Nat) (b1 : Int32) (b2 : Int32) (b3 : Int32) (b6 : Int32) (s0 : Int32) (h : mH) : Option (Int32 × mH) :=
  f_M_selfish_152 rec118 b0 b1 b2 b3 b6 s0 (0 : Int32) h
set_option maxRecDepth 20000 in
theorem t_M_selfish_151 {sc : Nat × (Nat → Int32)} (rec118 : Nat → Int32 → Int32 → Int32 → Int32 → Int32 → mH → Option (Int32 × mH)) (hrec118 : ∀ (b0 : Nat) (b1 : Int32) (b2 : Int32) (b3 : Int32) (b5 : Int32) (b6 : Int32) (h : mH) (r : Int32) (h' : mH), rec118 b0 b1 b2 b3 b5 b6 h = some (r, h') → G sc y_M_selfish prog_10_method_68_code 7 (some .int) 5 113 118 [(0, .ref b0), (1, .int b1), (2, .int b2), (3, .int b3), (5, .int b5), (6, .int b6)] [] h (some (.int r)) h') (b0 : Nat) (b1 : Int32) (b2 : Int32) (b3 : Int32) (b6 : Int32) (s0 : Int32) (h : mH) (r : Int32) (h' : mH) (hf : f_M_selfish_151 rec118 b0 b1 b2 b3 b6 s0 h = some (r, h')) : G sc y_M_selfish prog_10_method_68_code 7 (some .int) 5 113 151 [(0, .ref b0), (1, .int b1), (2, .int b2), (3, .int b3), (6, .int b6)] [.int s0] h (some (.int r)) h' := by
  unfold f_M_selfish_151 at hf
  refine g_iconst (pc := 151) (0 : Int32) dd_M_selfish_124.2.2.2.2.2.2.2.2.2.2.2.2.1 (by decide) ?_
  refine g_lv [0, 1, 2, 3, 4] rfl ?_
  exact t_M_selfish_152 rec118 hrec118 _ _ _ _ _ _ _ _ _ _  hf
def f_M_selfish_118b (rec118 : Nat → Int32 → Int32 → Int32 → Int32 → Int32 → mH → Option (Int32 × mH)) (b0 : Nat) (b1 : Int32) (b2 : Int32) (b3 : Int32) (b5 : Int32) (b6 : Int32) (h : mH) : Option (Int32 × mH) :=
  bd1 (gI h b0 8 2) fun x33 =>
  if x33 ≤ b6 then
    bd1 (kC h b0 8) fun _ =>
    bd1 (f_M_returns b0 h) fun h37 =>
    if b1 = 0 then
      some (b5, h37)
    else
      if b1 = (1 : Int32) then
        some (b2, h37)
      else
        some (b3, h37)
  else
    bd1 (kC h b0 8) fun _ =>
    bd2 (f_M_doesStand b0 b6 h) fun x45 h43 =>
    if x45 = 0 then
      f_M_selfish_151 rec118 b0 b1 b2 b3 b6 b5 h43
    else
      bd1 (kC h43 b0 8) fun _ =>
      bd2 (f_M_needOf b0 b6 h43) fun x50 h48 =>
      if x50 = 0 then
        f_M_selfish_152 rec118 b0 b1 b2 b3 b6 b5 (1 : Int32) h48
      else
        f_M_selfish_151 rec118 b0 b1 b2 b3 b6 b5 h48
set_option maxRecDepth 20000 in
theorem t_M_selfish_118b {sc : Nat × (Nat → Int32)} (rec118 : Nat → Int32 → Int32 → Int32 → Int32 → Int32 → mH → Option (Int32 × mH)) (hrec118 : ∀ (b0 : Nat) (b1 : Int32) (b2 : Int32) (b3 : Int32) (b5 : Int32) (b6 : Int32) (h : mH) (r : Int32) (h' : mH), rec118 b0 b1 b2 b3 b5 b6 h = some (r, h') → G sc y_M_selfish prog_10_method_68_code 7 (some .int) 5 113 118 [(0, .ref b0), (1, .int b1), (2, .int b2), (3, .int b3), (5, .int b5), (6, .int b6)] [] h (some (.int r)) h') (b0 : Nat) (b1 : Int32) (b2 : Int32) (b3 : Int32) (b5 : Int32) (b6 : Int32) (h : mH) (r : Int32) (h' : mH) (hf : f_M_selfish_118b rec118 b0 b1 b2 b3 b5 b6 h = some (r, h')) : G sc y_M_selfish prog_10_method_68_code 7 (some .int) 5 113 118 [(0, .ref b0), (1, .int b1), (2, .int b2), (3, .int b3), (5, .int b5), (6, .int b6)] [] h (some (.int r)) h' := by
  unfold f_M_selfish_118b at hf
  refine g_iload (pc := 118) 5 dd_M_selfish_82.2.2.2.2.2.2.2.2.2.2.2.2.2.2.2.2.2.2.2.2.2.1 rfl ?_
  refine g_aload_n (pc := 120) 0 dd_M_selfish_82.2.2.2.2.2.2.2.2.2.2.2.2.2.2.2.2.2.2.2.2.2.2.1 rfl rfl ?_
  obtain ⟨x33, e34, hf⟩ := bd1_e hf
  refine g_get (pc := 121) (ci := 8) (kk := 2) dd_M_selfish_82.2.2.2.2.2.2.2.2.2.2.2.2.2.2.2.2.2.2.2.2.2.2.2 rfl in_M (by decide) wd_940 (gI_spec e34) ?_
  refine g_icmpge (pc := 124) 167 dd_M_selfish_124.1 (by decide) (fun c53 => ?_) (fun c53 => ?_)
  · replace hf := (if_pos c53).symm.trans hf
    refine g_aload_n (pc := 167) 0 dd_M_selfish_124.2.2.2.2.2.2.2.2.2.2.2.2.2.2.2.2.2.2.2.2.1 rfl rfl ?_
    obtain ⟨u36, e35, hf⟩ := bd1_e hf
    obtain ⟨h37, e38, hf⟩ := bd1_e hf
    refine g_callV (pc := 168) (ci := 8) [] (site_of si_M_returns (by decide) (by decide)) wd_1315 wd_1317 wp_66 dd_M_selfish_124.2.2.2.2.2.2.2.2.2.2.2.2.2.2.2.2.2.2.2.2.2.1 rfl e35 (Nat.le_of_ble_eq_true rfl) (fun z => absurd z si_na_M_returns) (fun z => absurd z si_na_M_returns) (fun z => absurd z si_na_M_returns) (c_M_returns e38) rfl ?_
    refine g_st [] rfl ?_
    refine g_iload_n (pc := 171) 1 dd_M_selfish_124.2.2.2.2.2.2.2.2.2.2.2.2.2.2.2.2.2.2.2.2.2.2.1 rfl rfl ?_
    refine g_ifne (pc := 172) 180 dd_M_selfish_124.2.2.2.2.2.2.2.2.2.2.2.2.2.2.2.2.2.2.2.2.2.2.2 (by decide) (fun c40 => ?_) (fun c40 => ?_)
    · replace hf := (if_neg c40).symm.trans hf
      refine g_iload_n (pc := 180) 1 dd_M_selfish_175.2.2.1 rfl rfl ?_
      refine g_iconst (pc := 181) (1 : Int32) dd_M_selfish_175.2.2.2.1 (by decide) ?_
      refine g_icmpne (pc := 182) 189 dd_M_selfish_175.2.2.2.2.1 (by decide) (fun c39 => ?_) (fun c39 => ?_)
      · replace hf := (if_neg c39).symm.trans hf
        refine g_iload_n (pc := 189) 3 dd_M_selfish_175.2.2.2.2.2.2.2.1 rfl rfl ?_
        obtain ⟨rfl, rfl⟩ := ret2 hf
        exact g_iret (pc := 190) rfl dd_M_selfish_175.2.2.2.2.2.2.2.2
      · replace hf := (if_pos c39).symm.trans hf
        refine g_iload_n (pc := 185) 2 dd_M_selfish_175.2.2.2.2.2.1 rfl rfl ?_
        refine g_goto (pc := 186) 190 dd_M_selfish_175.2.2.2.2.2.2.1 (by decide) ?_
        obtain ⟨rfl, rfl⟩ := ret2 hf
        exact g_iret (pc := 190) rfl dd_M_selfish_175.2.2.2.2.2.2.2.2
    · replace hf := (if_pos c40).symm.trans hf
      refine g_iload (pc := 175) 4 dd_M_selfish_175.1 rfl ?_
      refine g_goto (pc := 177) 190 dd_M_selfish_175.2.1 (by decide) ?_
      obtain ⟨rfl, rfl⟩ := ret2 hf
      exact g_iret (pc := 190) rfl dd_M_selfish_175.2.2.2.2.2.2.2.2
  · replace hf := (if_neg c53).symm.trans hf
    refine g_iload (pc := 127) 4 dd_M_selfish_124.2.1 rfl ?_
    refine g_aload_n (pc := 129) 0 dd_M_selfish_124.2.2.1 rfl rfl ?_
    refine g_iload (pc := 130) 5 dd_M_selfish_124.2.2.2.1 rfl ?_
    obtain ⟨u42, e41, hf⟩ := bd1_e hf
    obtain ⟨x45, h43, e44, hf⟩ := bd2_e hf
    refine g_callV (pc := 132) (ci := 8) [.int b6] (site_of si_M_doesStand (by decide) (by decide)) wd_1144 wd_1146 wp_46 dd_M_selfish_124.2.2.2.2.1 rfl e41 (Nat.le_of_ble_eq_true rfl) (fun z => absurd z si_na_M_doesStand) (fun z => absurd z si_na_M_doesStand) (fun z => absurd z si_na_M_doesStand) (c_M_doesStand e44) rfl ?_
    refine g_st [.int x45, .int b5] rfl ?_
    refine g_ifeq (pc := 135) 151 dd_M_selfish_124.2.2.2.2.2.1 (by decide) (fun c52 => ?_) (fun c52 => ?_)
    · replace hf := (if_pos c52).symm.trans hf
      refine g_lv [0, 1, 2, 3, 5] rfl ?_
      exact t_M_selfish_151 rec118 hrec118 _ _ _ _ _ _ _ _ _  hf
    · replace hf := (if_neg c52).symm.trans hf
      refine g_aload_n (pc := 138) 0 dd_M_selfish_124.2.2.2.2.2.2.1 rfl rfl ?_
      refine g_iload (pc := 139) 5 dd_M_selfish_124.2.2.2.2.2.2.2.1 rfl ?_
      obtain ⟨u47, e46, hf⟩ := bd1_e hf
      obtain ⟨x50, h48, e49, hf⟩ := bd2_e hf
      refine g_callV (pc := 141) (ci := 8) [.int b6] (site_of si_M_needOf (by decide) (by decide)) wd_1140 wd_1142 wp_45 dd_M_selfish_124.2.2.2.2.2.2.2.2.1 rfl e46 (Nat.le_of_ble_eq_true rfl) (fun z => absurd z si_na_M_needOf) (fun z => absurd z si_na_M_needOf) (fun z => absurd z si_na_M_needOf) (c_M_needOf e49) rfl ?_
      refine g_st [.int x50, .int b5] rfl ?_
      refine g_ifne (pc := 144) 151 dd_M_selfish_124.2.2.2.2.2.2.2.2.2.1 (by decide) (fun c51 => ?_) (fun c51 => ?_)
      · replace hf := (if_neg c51).symm.trans hf
        refine g_lv [0, 1, 2, 3, 5] rfl ?_
        exact t_M_selfish_151 rec118 hrec118 _ _ _ _ _ _ _ _ _  hf
      · replace hf := (if_pos c51).symm.trans hf
        refine g_iconst (pc := 147) (1 : Int32) dd_M_selfish_124.2.2.2.2.2.2.2.2.2.2.1 (by decide) ?_
        refine g_goto (pc := 148) 152 dd_M_selfish_124.2.2.2.2.2.2.2.2.2.2.2.1 (by decide) ?_
        refine g_lv [0, 1, 2, 3, 5] rfl ?_
        exact t_M_selfish_152 rec118 hrec118 _ _ _ _ _ _ _ _ _ _  hf
def f_M_selfish_118  : Nat → Nat → Int32 → Int32 → Int32 → Int32 → Int32 → mH → Option (Int32 × mH)
  | 0 => fun _ _ _ _ _ _ _ => none
  | n + 1 => f_M_selfish_118b  (f_M_selfish_118  n)
theorem t_M_selfish_118 {sc : Nat × (Nat → Int32)}  : ∀ (n : Nat) (b0 : Nat) (b1 : Int32) (b2 : Int32) (b3 : Int32) (b5 : Int32) (b6 : Int32) (h : mH) (r : Int32) (h' : mH) (hf : f_M_selfish_118  n b0 b1 b2 b3 b5 b6 h = some (r, h')), G sc y_M_selfish prog_10_method_68_code 7 (some .int) 5 113 118 [(0, .ref b0), (1, .int b1), (2, .int b2), (3, .int b3), (5, .int b5), (6, .int b6)] [] h (some (.int r)) h'
  | 0, _, _, _, _, _, _, _, _, _, hf => by cases hf
  | n + 1, _, _, _, _, _, _, _, _, _, hf => t_M_selfish_118b  (f_M_selfish_118  n) (t_M_selfish_118  n) _ _ _ _ _ _ _ _ _ hf
def f_M_selfish_103 (rec25 : Nat → Int32 → Int32 → Int32 → Int32 → mH → Option (Int32 × mH)) (rec36 : Nat → Int32 → Int32 → Int32 → Int32 → Int32 → mH → Option (Int32 × mH)) (b0 : Nat) (b1 : Int32) (b2 : Int32) (b3 : Int32) (b4 : Int32) (b5 : Int32) (h : mH) : Option (Int32 × mH) :=
  rec36 b0 b1 b2 b3 b4 (b5 + (1 : Int32)) h
set_option maxRecDepth 20000 in
theorem t_M_selfish_103 {sc : Nat × (Nat → Int32)} (rec25 : Nat → Int32 → Int32 → Int32 → Int32 → mH → Option (Int32 × mH)) (hrec25 : ∀ (b0 : Nat) (b1 : Int32) (b2 : Int32) (b3 : Int32) (b4 : Int32) (h : mH) (r : Int32) (h' : mH), rec25 b0 b1 b2 b3 b4 h = some (r, h') → G sc y_M_selfish prog_10_method_68_code 7 (some .int) 5 113 25 [(0, .ref b0), (1, .int b1), (2, .int b2), (3, .int b3), (4, .int b4)] [] h (some (.int r)) h') (rec36 : Nat → Int32 → Int32 → Int32 → Int32 → Int32 → mH → Option (Int32 × mH)) (hrec36 : ∀ (b0 : Nat) (b1 : Int32) (b2 : Int32) (b3 : Int32) (b4 : Int32) (b5 : Int32) (h : mH) (r : Int32) (h' : mH), rec36 b0 b1 b2 b3 b4 b5 h = some (r, h') → G sc y_M_selfish prog_10_method_68_code 7 (some .int) 5 113 36 [(0, .ref b0), (1, .int b1), (2, .int b2), (3, .int b3), (4, .int b4), (5, .int b5)] [] h (some (.int r)) h') (b0 : Nat) (b1 : Int32) (b2 : Int32) (b3 : Int32) (b4 : Int32) (b5 : Int32) (h : mH) (r : Int32) (h' : mH) (hf : f_M_selfish_103 rec25 rec36 b0 b1 b2 b3 b4 b5 h = some (r, h')) : G sc y_M_selfish prog_10_method_68_code 7 (some .int) 5 113 103 [(0, .ref b0), (1, .int b1), (2, .int b2), (3, .int b3), (4, .int b4), (5, .int b5)] [] h (some (.int r)) h' := by
  unfold f_M_selfish_103 at hf
  refine g_iinc (pc := 103) 5 (b5 + (1 : Int32)) [(5, .int (b5 + (1 : Int32))), (0, .ref b0), (1, .int b1), (2, .int b2), (3, .int b3), (4, .int b4)] dd_M_selfish_82.2.2.2.2.2.2.2.2.2.2.2.2.2.2.1 rfl rfl (Nat.le_of_ble_eq_true rfl) rfl ?_
  refine g_goto (pc := 106) 36 dd_M_selfish_82.2.2.2.2.2.2.2.2.2.2.2.2.2.2.2.1 (by decide) ?_
  refine g_lv [1, 2, 3, 4, 5, 0] rfl ?_
  exact hrec36 _ _ _ _ _ _ _ _ _  hf
def f_M_selfish_36b (rec25 : Nat → Int32 → Int32 → Int32 → Int32 → mH → Option (Int32 × mH)) (rec36 : Nat → Int32 → Int32 → Int32 → Int32 → Int32 → mH → Option (Int32 × mH)) (b0 : Nat) (b1 : Int32) (b2 : Int32) (b3 : Int32) (b4 : Int32) (b5 : Int32) (h : mH) : Option (Int32 × mH) :=
  bd1 (gI h b0 8 3) fun x10 =>
  if x10 ≤ b5 then
    rec25 b0 b1 b2 b3 b4 h
  else
    bd1 (kC h b0 8) fun _ =>
    bd2 (f_M_wantedBy b0 b5 h) fun x16 h14 =>
    if x16 = ((-4) : Int32) then
      f_M_selfish_103 rec25 rec36 b0 b1 b2 b3 b4 b5 h14
    else
      bd1 (gR h14 b0 8 0) fun x17 =>
      bd1 (aI h14 0 x17 (((24 : Int32) + ((5 : Int32) * b5)) + x16)) fun x19 =>
      bd1 (sI h14 0 x17 (((24 : Int32) + ((5 : Int32) * b5)) + x16) (x19 + (1 : Int32))) fun h21 =>
      bd1 (gR h21 b0 8 5) fun x23 =>
      bd1 (aI h21 0 x23 x16) fun x25 =>
      bd1 (gR h21 b0 8 7) fun x27 =>
      bd1 (aI h21 0 x27 b5) fun x29 =>
      f_M_selfish_103 rec25 rec36 b0 b1 (b2 + (1 : Int32)) (b3 + (x25 + x29)) (1 : Int32) b5 h21
set_option maxRecDepth 20000 in
theorem t_M_selfish_36b {sc : Nat × (Nat → Int32)} (rec25 : Nat → Int32 → Int32 → Int32 → Int32 → mH → Option (Int32 × mH)) (hrec25 : ∀ (b0 : Nat) (b1 : Int32) (b2 : Int32) (b3 : Int32) (b4 : Int32) (h : mH) (r : Int32) (h' : mH), rec25 b0 b1 b2 b3 b4 h = some (r, h') → G sc y_M_selfish prog_10_method_68_code 7 (some .int) 5 113 25 [(0, .ref b0), (1, .int b1), (2, .int b2), (3, .int b3), (4, .int b4)] [] h (some (.int r)) h') (rec36 : Nat → Int32 → Int32 → Int32 → Int32 → Int32 → mH → Option (Int32 × mH)) (hrec36 : ∀ (b0 : Nat) (b1 : Int32) (b2 : Int32) (b3 : Int32) (b4 : Int32) (b5 : Int32) (h : mH) (r : Int32) (h' : mH), rec36 b0 b1 b2 b3 b4 b5 h = some (r, h') → G sc y_M_selfish prog_10_method_68_code 7 (some .int) 5 113 36 [(0, .ref b0), (1, .int b1), (2, .int b2), (3, .int b3), (4, .int b4), (5, .int b5)] [] h (some (.int r)) h') (b0 : Nat) (b1 : Int32) (b2 : Int32) (b3 : Int32) (b4 : Int32) (b5 : Int32) (h : mH) (r : Int32) (h' : mH) (hf : f_M_selfish_36b rec25 rec36 b0 b1 b2 b3 b4 b5 h = some (r, h')) : G sc y_M_selfish prog_10_method_68_code 7 (some .int) 5 113 36 [(0, .ref b0), (1, .int b1), (2, .int b2), (3, .int b3), (4, .int b4), (5, .int b5)] [] h (some (.int r)) h' := by
  unfold f_M_selfish_36b at hf
  refine g_iload (pc := 36) 5 dd_M_selfish_0.2.2.2.2.2.2.2.2.2.2.2.2.2.2.2.2.2.2.2.2.2.2.1 rfl ?_
  refine g_aload_n (pc := 38) 0 dd_M_selfish_0.2.2.2.2.2.2.2.2.2.2.2.2.2.2.2.2.2.2.2.2.2.2.2 rfl rfl ?_
  obtain ⟨x10, e11, hf⟩ := bd1_e hf
  refine g_get (pc := 39) (ci := 8) (kk := 3) dd_M_selfish_39.1 rfl in_M (by decide) wd_941 (gI_spec e11) ?_
  refine g_icmpge (pc := 42) 109 dd_M_selfish_39.2.1 (by decide) (fun c32 => ?_) (fun c32 => ?_)
  · replace hf := (if_pos c32).symm.trans hf
    refine g_goto (pc := 109) 25 dd_M_selfish_82.2.2.2.2.2.2.2.2.2.2.2.2.2.2.2.2.1 (by decide) ?_
    refine g_lv [0, 1, 2, 3, 4] rfl ?_
    exact hrec25 _ _ _ _ _ _ _ _  hf
  · replace hf := (if_neg c32).symm.trans hf
    refine g_aload_n (pc := 45) 0 dd_M_selfish_39.2.2.1 rfl rfl ?_
    refine g_iload (pc := 46) 5 dd_M_selfish_39.2.2.2.1 rfl ?_
    obtain ⟨u13, e12, hf⟩ := bd1_e hf
    obtain ⟨x16, h14, e15, hf⟩ := bd2_e hf
    refine g_callV (pc := 48) (ci := 8) [.int b5] (site_of si_M_wantedBy (by decide) (by decide)) wd_1311 wd_1313 wp_65 dd_M_selfish_39.2.2.2.2.1 rfl e12 (Nat.le_of_ble_eq_true rfl) (fun z => absurd z si_na_M_wantedBy) (fun z => absurd z si_na_M_wantedBy) (fun z => absurd z si_na_M_wantedBy) (c_M_wantedBy e15) rfl ?_
    refine g_st [.int x16] rfl ?_
    refine g_istore (pc := 51) [(6, .int x16), (0, .ref b0), (1, .int b1), (2, .int b2), (3, .int b3), (4, .int b4), (5, .int b5)] dd_M_selfish_39.2.2.2.2.2.1 (Nat.le_of_ble_eq_true rfl) rfl ?_
    refine g_iload (pc := 53) 0 dd_M_selfish_39.2.2.2.2.2.2.1 rfl ?_
    refine g_bipush (pc := 55) ((-4) : Int32) dd_M_selfish_39.2.2.2.2.2.2.2.1 (by decide) ?_
    refine g_icmpeq (pc := 57) 103 dd_M_selfish_39.2.2.2.2.2.2.2.2.1 (by decide) (fun c31 => ?_) (fun c31 => ?_)
    · replace hf := (if_pos c31).symm.trans hf
      refine g_lv [1, 2, 3, 4, 5, 6] rfl ?_
      exact t_M_selfish_103 rec25 hrec25 rec36 hrec36 _ _ _ _ _ _ _ _ _  hf
    · replace hf := (if_neg c31).symm.trans hf
      refine g_aload_n (pc := 60) 1 dd_M_selfish_39.2.2.2.2.2.2.2.2.2.1 rfl rfl ?_
      obtain ⟨x17, e18, hf⟩ := bd1_e hf
      refine g_get (pc := 61) (ci := 8) (kk := 0) dd_M_selfish_39.2.2.2.2.2.2.2.2.2.2.1 rfl in_M (by decide) wd_938 (gR_spec e18) ?_
      refine g_bipush (pc := 64) (24 : Int32) dd_M_selfish_39.2.2.2.2.2.2.2.2.2.2.2.1 (by decide) ?_
      refine g_iconst (pc := 66) (5 : Int32) dd_M_selfish_39.2.2.2.2.2.2.2.2.2.2.2.2.1 (by decide) ?_
      refine g_iload (pc := 67) 6 dd_M_selfish_39.2.2.2.2.2.2.2.2.2.2.2.2.2.1 rfl ?_
      refine g_imul (pc := 69) dd_M_selfish_39.2.2.2.2.2.2.2.2.2.2.2.2.2.2.1 ?_
      refine g_iadd (pc := 70) dd_M_selfish_39.2.2.2.2.2.2.2.2.2.2.2.2.2.2.2.1 ?_
      refine g_iload (pc := 71) 0 dd_M_selfish_39.2.2.2.2.2.2.2.2.2.2.2.2.2.2.2.2.1 rfl ?_
      refine g_iadd (pc := 73) dd_M_selfish_39.2.2.2.2.2.2.2.2.2.2.2.2.2.2.2.2.2.1 ?_
      refine g_dup2 (pc := 74) dd_M_selfish_39.2.2.2.2.2.2.2.2.2.2.2.2.2.2.2.2.2.2.1 rfl rfl ?_
      obtain ⟨x19, e20, hf⟩ := bd1_e hf
      refine g_iald (pc := 75) dd_M_selfish_39.2.2.2.2.2.2.2.2.2.2.2.2.2.2.2.2.2.2.2.1 e20 ?_
      refine g_iconst (pc := 76) (1 : Int32) dd_M_selfish_39.2.2.2.2.2.2.2.2.2.2.2.2.2.2.2.2.2.2.2.2.1 (by decide) ?_
      refine g_iadd (pc := 77) dd_M_selfish_39.2.2.2.2.2.2.2.2.2.2.2.2.2.2.2.2.2.2.2.2.2.1 ?_
      obtain ⟨h21, e22, hf⟩ := bd1_e hf
      refine g_iast (pc := 78) dd_M_selfish_39.2.2.2.2.2.2.2.2.2.2.2.2.2.2.2.2.2.2.2.2.2.2.1 e22 ?_
      refine g_iinc (pc := 79) 3 (b2 + (1 : Int32)) [(2, .int (b2 + (1 : Int32))), (6, .int x16), (0, .ref b0), (1, .int b1), (3, .int b3), (4, .int b4), (5, .int b5)] dd_M_selfish_39.2.2.2.2.2.2.2.2.2.2.2.2.2.2.2.2.2.2.2.2.2.2.2 rfl rfl (Nat.le_of_ble_eq_true rfl) rfl ?_
      refine g_iload_n (pc := 82) 4 dd_M_selfish_82.1 rfl rfl ?_
      refine g_aload_n (pc := 83) 2 dd_M_selfish_82.2.1 rfl rfl ?_
      obtain ⟨x23, e24, hf⟩ := bd1_e hf
      refine g_get (pc := 84) (ci := 8) (kk := 5) dd_M_selfish_82.2.2.1 rfl in_M (by decide) wd_943 (gR_spec e24) ?_
      refine g_iload (pc := 87) 1 dd_M_selfish_82.2.2.2.1 rfl ?_
      obtain ⟨x25, e26, hf⟩ := bd1_e hf
      refine g_iald (pc := 89) dd_M_selfish_82.2.2.2.2.1 e26 ?_
      refine g_aload_n (pc := 90) 2 dd_M_selfish_82.2.2.2.2.2.1 rfl rfl ?_
      obtain ⟨x27, e28, hf⟩ := bd1_e hf
      refine g_get (pc := 91) (ci := 8) (kk := 7) dd_M_selfish_82.2.2.2.2.2.2.1 rfl in_M (by decide) wd_945 (gR_spec e28) ?_
      refine g_iload (pc := 94) 6 dd_M_selfish_82.2.2.2.2.2.2.2.1 rfl ?_
      obtain ⟨x29, e30, hf⟩ := bd1_e hf
      refine g_iald (pc := 96) dd_M_selfish_82.2.2.2.2.2.2.2.2.1 e30 ?_
      refine g_iadd (pc := 97) dd_M_selfish_82.2.2.2.2.2.2.2.2.2.1 ?_
      refine g_iadd (pc := 98) dd_M_selfish_82.2.2.2.2.2.2.2.2.2.2.1 ?_
      refine g_istore_n (pc := 99) [(3, .int (b3 + (x25 + x29))), (2, .int (b2 + (1 : Int32))), (6, .int x16), (0, .ref b0), (1, .int b1), (4, .int b4), (5, .int b5)] dd_M_selfish_82.2.2.2.2.2.2.2.2.2.2.2.1 rfl (Nat.le_of_ble_eq_true rfl) rfl ?_
      refine g_iconst (pc := 100) (1 : Int32) dd_M_selfish_82.2.2.2.2.2.2.2.2.2.2.2.2.1 (by decide) ?_
      refine g_istore (pc := 101) [(4, .int (1 : Int32)), (3, .int (b3 + (x25 + x29))), (2, .int (b2 + (1 : Int32))), (6, .int x16), (0, .ref b0), (1, .int b1), (5, .int b5)] dd_M_selfish_82.2.2.2.2.2.2.2.2.2.2.2.2.2.1 (Nat.le_of_ble_eq_true rfl) rfl ?_
      refine g_lv [4, 5, 2, 1, 0, 6] rfl ?_
      exact t_M_selfish_103 rec25 hrec25 rec36 hrec36 _ _ _ _ _ _ _ _ _  hf
def f_M_selfish_36 (rec25 : Nat → Int32 → Int32 → Int32 → Int32 → mH → Option (Int32 × mH)) : Nat → Nat → Int32 → Int32 → Int32 → Int32 → Int32 → mH → Option (Int32 × mH)
  | 0 => fun _ _ _ _ _ _ _ => none
  | n + 1 => f_M_selfish_36b rec25 (f_M_selfish_36 rec25 n)
theorem t_M_selfish_36 {sc : Nat × (Nat → Int32)} (rec25 : Nat → Int32 → Int32 → Int32 → Int32 → mH → Option (Int32 × mH)) (hrec25 : ∀ (b0 : Nat) (b1 : Int32) (b2 : Int32) (b3 : Int32) (b4 : Int32) (h : mH) (r : Int32) (h' : mH), rec25 b0 b1 b2 b3 b4 h = some (r, h') → G sc y_M_selfish prog_10_method_68_code 7 (some .int) 5 113 25 [(0, .ref b0), (1, .int b1), (2, .int b2), (3, .int b3), (4, .int b4)] [] h (some (.int r)) h') : ∀ (n : Nat) (b0 : Nat) (b1 : Int32) (b2 : Int32) (b3 : Int32) (b4 : Int32) (b5 : Int32) (h : mH) (r : Int32) (h' : mH) (hf : f_M_selfish_36 rec25 n b0 b1 b2 b3 b4 b5 h = some (r, h')), G sc y_M_selfish prog_10_method_68_code 7 (some .int) 5 113 36 [(0, .ref b0), (1, .int b1), (2, .int b2), (3, .int b3), (4, .int b4), (5, .int b5)] [] h (some (.int r)) h'
  | 0, _, _, _, _, _, _, _, _, _, hf => by cases hf
  | n + 1, _, _, _, _, _, _, _, _, _, hf => t_M_selfish_36b rec25 hrec25 (f_M_selfish_36 rec25 n) (t_M_selfish_36 rec25 hrec25 n) _ _ _ _ _ _ _ _ _ hf
def f_M_selfish_25b (rec25 : Nat → Int32 → Int32 → Int32 → Int32 → mH → Option (Int32 × mH)) (b0 : Nat) (b1 : Int32) (b2 : Int32) (b3 : Int32) (b4 : Int32) (h : mH) : Option (Int32 × mH) :=
  if b4 = 0 then
    f_M_selfish_118  FU b0 b1 b2 b3 (0 : Int32) (0 : Int32) h
  else
    f_M_selfish_36 rec25 FU b0 b1 b2 b3 (0 : Int32) (0 : Int32) h
set_option maxRecDepth 20000 in
theorem t_M_selfish_25b {sc : Nat × (Nat → Int32)} (rec25 : Nat → Int32 → Int32 → Int32 → Int32 → mH → Option (Int32 × mH)) (hrec25 : ∀ (b0 : Nat) (b1 : Int32) (b2 : Int32) (b3 : Int32) (b4 : Int32) (h : mH) (r : Int32) (h' : mH), rec25 b0 b1 b2 b3 b4 h = some (r, h') → G sc y_M_selfish prog_10_method_68_code 7 (some .int) 5 113 25 [(0, .ref b0), (1, .int b1), (2, .int b2), (3, .int b3), (4, .int b4)] [] h (some (.int r)) h') (b0 : Nat) (b1 : Int32) (b2 : Int32) (b3 : Int32) (b4 : Int32) (h : mH) (r : Int32) (h' : mH) (hf : f_M_selfish_25b rec25 b0 b1 b2 b3 b4 h = some (r, h')) : G sc y_M_selfish prog_10_method_68_code 7 (some .int) 5 113 25 [(0, .ref b0), (1, .int b1), (2, .int b2), (3, .int b3), (4, .int b4)] [] h (some (.int r)) h' := by
  unfold f_M_selfish_25b at hf
  refine g_iload (pc := 25) 4 dd_M_selfish_0.2.2.2.2.2.2.2.2.2.2.2.2.2.2.2.2.1 rfl ?_
  refine g_ifeq (pc := 27) 112 dd_M_selfish_0.2.2.2.2.2.2.2.2.2.2.2.2.2.2.2.2.2.1 (by decide) (fun c9 => ?_) (fun c9 => ?_)
  · replace hf := (if_pos c9).symm.trans hf
    refine g_iconst (pc := 112) (0 : Int32) dd_M_selfish_82.2.2.2.2.2.2.2.2.2.2.2.2.2.2.2.2.2.1 (by decide) ?_
    refine g_istore (pc := 113) [(5, .int (0 : Int32)), (0, .ref b0), (1, .int b1), (2, .int b2), (3, .int b3), (4, .int b4)] dd_M_selfish_82.2.2.2.2.2.2.2.2.2.2.2.2.2.2.2.2.2.2.1 (Nat.le_of_ble_eq_true rfl) rfl ?_
    refine g_iconst (pc := 115) (0 : Int32) dd_M_selfish_82.2.2.2.2.2.2.2.2.2.2.2.2.2.2.2.2.2.2.2.1 (by decide) ?_
    refine g_istore (pc := 116) [(6, .int (0 : Int32)), (5, .int (0 : Int32)), (0, .ref b0), (1, .int b1), (2, .int b2), (3, .int b3), (4, .int b4)] dd_M_selfish_82.2.2.2.2.2.2.2.2.2.2.2.2.2.2.2.2.2.2.2.2.1 (Nat.le_of_ble_eq_true rfl) rfl ?_
    refine g_lv [2, 3, 4, 5, 1, 0] rfl ?_
    exact t_M_selfish_118  FU _ _ _ _ _ _ _ _ _  hf
  · replace hf := (if_neg c9).symm.trans hf
    refine g_iconst (pc := 30) (0 : Int32) dd_M_selfish_0.2.2.2.2.2.2.2.2.2.2.2.2.2.2.2.2.2.2.1 (by decide) ?_
    refine g_istore (pc := 31) [(4, .int (0 : Int32)), (0, .ref b0), (1, .int b1), (2, .int b2), (3, .int b3)] dd_M_selfish_0.2.2.2.2.2.2.2.2.2.2.2.2.2.2.2.2.2.2.2.1 (Nat.le_of_ble_eq_true rfl) rfl ?_
    refine g_iconst (pc := 33) (0 : Int32) dd_M_selfish_0.2.2.2.2.2.2.2.2.2.2.2.2.2.2.2.2.2.2.2.2.1 (by decide) ?_
    refine g_istore (pc := 34) [(5, .int (0 : Int32)), (4, .int (0 : Int32)), (0, .ref b0), (1, .int b1), (2, .int b2), (3, .int b3)] dd_M_selfish_0.2.2.2.2.2.2.2.2.2.2.2.2.2.2.2.2.2.2.2.2.2.1 (Nat.le_of_ble_eq_true rfl) rfl ?_
    refine g_lv [2, 3, 4, 5, 1, 0] rfl ?_
    exact t_M_selfish_36 rec25 hrec25 FU _ _ _ _ _ _ _ _ _  hf
def f_M_selfish_25  : Nat → Nat → Int32 → Int32 → Int32 → Int32 → mH → Option (Int32 × mH)
  | 0 => fun _ _ _ _ _ _ => none
  | n + 1 => f_M_selfish_25b  (f_M_selfish_25  n)
theorem t_M_selfish_25 {sc : Nat × (Nat → Int32)}  : ∀ (n : Nat) (b0 : Nat) (b1 : Int32) (b2 : Int32) (b3 : Int32) (b4 : Int32) (h : mH) (r : Int32) (h' : mH) (hf : f_M_selfish_25  n b0 b1 b2 b3 b4 h = some (r, h')), G sc y_M_selfish prog_10_method_68_code 7 (some .int) 5 113 25 [(0, .ref b0), (1, .int b1), (2, .int b2), (3, .int b3), (4, .int b4)] [] h (some (.int r)) h'
  | 0, _, _, _, _, _, _, _, _, hf => by cases hf
  | n + 1, _, _, _, _, _, _, _, _, hf => t_M_selfish_25b  (f_M_selfish_25  n) (t_M_selfish_25  n) _ _ _ _ _ _ _ _ hf
def f_M_selfish_0  (a0 : Nat) (a1 : Int32) (h : mH) : Option (Int32 × mH) :=
  bd2 (f_M_in a1.toInt64 (0 : Int64) (2 : Int64) h) fun x3 h1 =>
  if x3 = 0 then
    some (((-1) : Int32), h1)
  else
    bd1 (kC h1 a0 8) fun _ =>
    bd1 (f_M_saves a0 h1) fun h6 =>
    f_M_selfish_25  FU a0 a1 (0 : Int32) (0 : Int32) (1 : Int32) h6
set_option maxRecDepth 20000 in
theorem t_M_selfish_0 {sc : Nat × (Nat → Int32)}  (a0 : Nat) (a1 : Int32) (h : mH) (r : Int32) (h' : mH) (hf : f_M_selfish_0  a0 a1 h = some (r, h')) : G sc y_M_selfish prog_10_method_68_code 7 (some .int) 5 113 0 [(0, .ref a0), (1, .int a1)] [] h (some (.int r)) h' := by
  unfold f_M_selfish_0 at hf
  refine g_iload_n (pc := 0) 1 dd_M_selfish_0.1 rfl rfl ?_
  refine g_i2l (pc := 1) dd_M_selfish_0.2.1 ?_
  refine g_lconst (pc := 2) (0 : Int64) dd_M_selfish_0.2.2.1 (by decide) ?_
  refine g_ldc2 (pc := 3) (2 : Int64) dd_M_selfish_0.2.2.2.1 wd_1306 ?_
  obtain ⟨x3, h1, e2, hf⟩ := bd2_e hf
  refine g_callS (pc := 6) [.long a1.toInt64, .long (0 : Int64), .long (2 : Int64)] (site_of si_M_in (by decide) (by decide)) wd_1061 wd_1062 dd_M_selfish_0.2.2.2.2.1 (Nat.le_of_ble_eq_true rfl) (fun z => absurd z si_na_M_in) (fun z => absurd z si_na_M_in) (fun z => absurd z si_na_M_in) (c_M_in e2) rfl ?_
  refine g_st [.int x3] rfl ?_
  refine g_ifne (pc := 9) 14 dd_M_selfish_0.2.2.2.2.2.1 (by decide) (fun c8 => ?_) (fun c8 => ?_)
  · replace hf := (if_neg c8).symm.trans hf
    refine g_aload_n (pc := 14) 0 dd_M_selfish_0.2.2.2.2.2.2.2.2.1 rfl rfl ?_
    obtain ⟨u5, e4, hf⟩ := bd1_e hf
    obtain ⟨h6, e7, hf⟩ := bd1_e hf
    refine g_callV (pc := 15) (ci := 8) [] (site_of si_M_saves (by decide) (by decide)) wd_1307 wd_1309 wp_64 dd_M_selfish_0.2.2.2.2.2.2.2.2.2.1 rfl e4 (Nat.le_of_ble_eq_true rfl) (fun z => absurd z si_na_M_saves) (fun z => absurd z si_na_M_saves) (fun z => absurd z si_na_M_saves) (c_M_saves e7) rfl ?_
    refine g_st [] rfl ?_
    refine g_iconst (pc := 18) (0 : Int32) dd_M_selfish_0.2.2.2.2.2.2.2.2.2.2.1 (by decide) ?_
    refine g_istore_n (pc := 19) [(2, .int (0 : Int32)), (0, .ref a0), (1, .int a1)] dd_M_selfish_0.2.2.2.2.2.2.2.2.2.2.2.1 rfl (Nat.le_of_ble_eq_true rfl) rfl ?_
    refine g_iconst (pc := 20) (0 : Int32) dd_M_selfish_0.2.2.2.2.2.2.2.2.2.2.2.2.1 (by decide) ?_
    refine g_istore_n (pc := 21) [(3, .int (0 : Int32)), (2, .int (0 : Int32)), (0, .ref a0), (1, .int a1)] dd_M_selfish_0.2.2.2.2.2.2.2.2.2.2.2.2.2.1 rfl (Nat.le_of_ble_eq_true rfl) rfl ?_
    refine g_iconst (pc := 22) (1 : Int32) dd_M_selfish_0.2.2.2.2.2.2.2.2.2.2.2.2.2.2.1 (by decide) ?_
    refine g_istore (pc := 23) [(4, .int (1 : Int32)), (3, .int (0 : Int32)), (2, .int (0 : Int32)), (0, .ref a0), (1, .int a1)] dd_M_selfish_0.2.2.2.2.2.2.2.2.2.2.2.2.2.2.2.1 (Nat.le_of_ble_eq_true rfl) rfl ?_
    refine g_lv [3, 4, 2, 1, 0] rfl ?_
    exact t_M_selfish_25  FU _ _ _ _ _ _ _ _  hf
  · replace hf := (if_pos c8).symm.trans hf
    refine g_iconst (pc := 12) ((-1) : Int32) dd_M_selfish_0.2.2.2.2.2.2.1 (by decide) ?_
    obtain ⟨rfl, rfl⟩ := ret2 hf
    exact g_iret (pc := 13) rfl dd_M_selfish_0.2.2.2.2.2.2.2.1
def f_M_selfish (a0 : Nat) (a1 : Int32) (h : mH) : Option (Int32 × mH) := f_M_selfish_0 a0 a1 h
theorem c_M_selfish {sc : Nat × (Nat → Int32)} {a0 : Nat} {a1 : Int32} {h : mH} {r : Int32} {h' : mH} (hf : f_M_selfish a0 a1 h = some (r, h')) : MM sc y_M_selfish prog_10_method_68_code 7 (some .int) 5 113 [.ref a0, .int a1] h (some (.int r)) h' :=
  mm_of_G si_pn_M (Nat.le_of_ble_eq_true rfl) (t_M_selfish_0 _ _ _ _ _ hf)
/-! M common (JJ)J -/
set_option maxRecDepth 100000 in
theorem dd_M_common_0 : (decode prog_10_method_69_code 0 = .ok (.lload_n 0, 1)) ∧ (decode prog_10_method_69_code 1 = .ok (.lstore 4, 2)) ∧ (decode prog_10_method_69_code 3 = .ok (.lload_n 2, 1)) ∧ (decode prog_10_method_69_code 4 = .ok (.lstore 6, 2)) ∧ (decode prog_10_method_69_code 6 = .ok (.lload 6, 2)) ∧ (decode prog_10_method_69_code 8 = .ok (.lconst 0, 1)) ∧ (decode prog_10_method_69_code 9 = .ok (.lcmp, 1)) ∧ (decode prog_10_method_69_code 10 = .ok (.ifCond .eq 21, 3)) ∧ (decode prog_10_method_69_code 13 = .ok (.lload 4, 2)) ∧ (decode prog_10_method_69_code 15 = .ok (.lload 6, 2)) ∧ (decode prog_10_method_69_code 17 = .ok (.lrem, 1)) ∧ (decode prog_10_method_69_code 18 = .ok (.lstore 8, 2)) ∧ (decode prog_10_method_69_code 20 = .ok (.lload 6, 2)) ∧ (decode prog_10_method_69_code 22 = .ok (.lstore 4, 2)) ∧ (decode prog_10_method_69_code 24 = .ok (.lload 8, 2)) ∧ (decode prog_10_method_69_code 26 = .ok (.lstore 6, 2)) ∧ (decode prog_10_method_69_code 28 = .ok (.goto (-22), 3)) ∧ (decode prog_10_method_69_code 31 = .ok (.lload 4, 2)) ∧ (decode prog_10_method_69_code 33 = .ok (.lreturn, 1)) := by
  have h : List.drop 0 prog_10_method_69_code.data.toList = 0x1e :: _ := rfl
  refine ⟨zq_k_n 30 h rfl (zq_o_30 _), ?_⟩
  replace h := zq_nx1 (q := 1) h rfl
  refine ⟨zq_k_u1 55 (fun z => .lstore z) 4 h rfl (zq_o_55 _) (by decide +kernel), ?_⟩
  replace h := zq_nx2 (q := 3) h rfl
  refine ⟨zq_k_n 32 h rfl (zq_o_32 _), ?_⟩
  replace h := zq_nx1 (q := 4) h rfl
  refine ⟨zq_k_u1 55 (fun z => .lstore z) 6 h rfl (zq_o_55 _) (by decide +kernel), ?_⟩
  replace h := zq_nx2 (q := 6) h rfl
  refine ⟨zq_k_u1 22 (fun z => .lload z) 6 h rfl (zq_o_22 _) (by decide +kernel), ?_⟩
  replace h := zq_nx2 (q := 8) h rfl
  refine ⟨zq_k_n 9 h rfl (zq_o_9 _), ?_⟩
  replace h := zq_nx1 (q := 9) h rfl
  refine ⟨zq_k_n 148 h rfl (zq_o_148 _), ?_⟩
  replace h := zq_nx1 (q := 10) h rfl
  refine ⟨zq_k_s2 153 (fun z => .ifCond .eq z) 21 h rfl (zq_o_153 _) (by decide +kernel), ?_⟩
  replace h := zq_nx3 (q := 13) h rfl
  refine ⟨zq_k_u1 22 (fun z => .lload z) 4 h rfl (zq_o_22 _) (by decide +kernel), ?_⟩
  replace h := zq_nx2 (q := 15) h rfl
  refine ⟨zq_k_u1 22 (fun z => .lload z) 6 h rfl (zq_o_22 _) (by decide +kernel), ?_⟩
  replace h := zq_nx2 (q := 17) h rfl
  refine ⟨zq_k_n 113 h rfl (zq_o_113 _), ?_⟩
  replace h := zq_nx1 (q := 18) h rfl
  refine ⟨zq_k_u1 55 (fun z => .lstore z) 8 h rfl (zq_o_55 _) (by decide +kernel), ?_⟩
  replace h := zq_nx2 (q := 20) h rfl
  refine ⟨zq_k_u1 22 (fun z => .lload z) 6 h rfl (zq_o_22 _) (by decide +kernel), ?_⟩
  replace h := zq_nx2 (q := 22) h rfl
  refine ⟨zq_k_u1 55 (fun z => .lstore z) 4 h rfl (zq_o_55 _) (by decide +kernel), ?_⟩
  replace h := zq_nx2 (q := 24) h rfl
  refine ⟨zq_k_u1 22 (fun z => .lload z) 8 h rfl (zq_o_22 _) (by decide +kernel), ?_⟩
  replace h := zq_nx2 (q := 26) h rfl
  refine ⟨zq_k_u1 55 (fun z => .lstore z) 6 h rfl (zq_o_55 _) (by decide +kernel), ?_⟩
  replace h := zq_nx2 (q := 28) h rfl
  refine ⟨zq_k_s2 167 (fun z => .goto z) (-22) h rfl (zq_o_167 _) (by decide +kernel), ?_⟩
  replace h := zq_nx3 (q := 31) h rfl
  refine ⟨zq_k_u1 22 (fun z => .lload z) 4 h rfl (zq_o_22 _) (by decide +kernel), ?_⟩
  replace h := zq_nx2 (q := 33) h rfl
  exact zq_k_n 173 h rfl (zq_o_173 _)
def f_M_common_6b (rec6 : Int64 → Int64 → mH → Option (Int64 × mH)) (b4 : Int64) (b6 : Int64) (h : mH) : Option (Int64 × mH) :=
  if (lg_cmp b6 (0 : Int64)) = 0 then
    some (b4, h)
  else
    if b6 = 0 then none else
    rec6 b6 (b4 - b4 / b6 * b6) h
set_option maxRecDepth 20000 in
theorem t_M_common_6b {sc : Nat × (Nat → Int32)} (rec6 : Int64 → Int64 → mH → Option (Int64 × mH)) (hrec6 : ∀ (b4 : Int64) (b6 : Int64) (h : mH) (r : Int64) (h' : mH), rec6 b4 b6 h = some (r, h') → G sc y_M_common prog_10_method_69_code 10 (some .long) 0 0 6 [(4, .long b4), (6, .long b6)] [] h (some (.long r)) h') (b4 : Int64) (b6 : Int64) (h : mH) (r : Int64) (h' : mH) (hf : f_M_common_6b rec6 b4 b6 h = some (r, h')) : G sc y_M_common prog_10_method_69_code 10 (some .long) 0 0 6 [(4, .long b4), (6, .long b6)] [] h (some (.long r)) h' := by
  unfold f_M_common_6b at hf
  refine g_lload (pc := 6) 1 dd_M_common_0.2.2.2.2.1 rfl ?_
  refine g_lconst (pc := 8) (0 : Int64) dd_M_common_0.2.2.2.2.2.1 (by decide) ?_
  refine g_lcmp (pc := 9) dd_M_common_0.2.2.2.2.2.2.1 ?_
  refine g_ifeq (pc := 10) 31 dd_M_common_0.2.2.2.2.2.2.2.1 (by decide) (fun c2 => ?_) (fun c2 => ?_)
  · replace hf := (if_pos c2).symm.trans hf
    refine g_lload (pc := 31) 0 dd_M_common_0.2.2.2.2.2.2.2.2.2.2.2.2.2.2.2.2.2.1 rfl ?_
    obtain ⟨rfl, rfl⟩ := ret2 hf
    exact g_lret (pc := 33) rfl dd_M_common_0.2.2.2.2.2.2.2.2.2.2.2.2.2.2.2.2.2.2
  · replace hf := (if_neg c2).symm.trans hf
    refine g_lload (pc := 13) 0 dd_M_common_0.2.2.2.2.2.2.2.2.1 rfl ?_
    refine g_lload (pc := 15) 1 dd_M_common_0.2.2.2.2.2.2.2.2.2.1 rfl ?_
    have c1 : ¬ b6 = 0 := fun z => absurd ((if_pos z).symm.trans hf) (by simp)
    replace hf := (if_neg c1).symm.trans hf
    refine g_lrem (pc := 17) dd_M_common_0.2.2.2.2.2.2.2.2.2.2.1 c1 ?_
    refine g_lstore (pc := 18) [(8, .long (b4 - b4 / b6 * b6)), (4, .long b4), (6, .long b6)] dd_M_common_0.2.2.2.2.2.2.2.2.2.2.2.1 (Nat.le_of_ble_eq_true rfl) rfl ?_
    refine g_lload (pc := 20) 2 dd_M_common_0.2.2.2.2.2.2.2.2.2.2.2.2.1 rfl ?_
    refine g_lstore (pc := 22) [(4, .long b6), (8, .long (b4 - b4 / b6 * b6)), (6, .long b6)] dd_M_common_0.2.2.2.2.2.2.2.2.2.2.2.2.2.1 (Nat.le_of_ble_eq_true rfl) rfl ?_
    refine g_lload (pc := 24) 1 dd_M_common_0.2.2.2.2.2.2.2.2.2.2.2.2.2.2.1 rfl ?_
    refine g_lstore (pc := 26) [(6, .long (b4 - b4 / b6 * b6)), (4, .long b6), (8, .long (b4 - b4 / b6 * b6))] dd_M_common_0.2.2.2.2.2.2.2.2.2.2.2.2.2.2.2.1 (Nat.le_of_ble_eq_true rfl) rfl ?_
    refine g_goto (pc := 28) 6 dd_M_common_0.2.2.2.2.2.2.2.2.2.2.2.2.2.2.2.2.1 (by decide) ?_
    refine g_lv [1, 0] rfl ?_
    exact hrec6 _ _ _ _ _  hf
def f_M_common_6  : Nat → Int64 → Int64 → mH → Option (Int64 × mH)
  | 0 => fun _ _ _ => none
  | n + 1 => f_M_common_6b  (f_M_common_6  n)
theorem t_M_common_6 {sc : Nat × (Nat → Int32)}  : ∀ (n : Nat) (b4 : Int64) (b6 : Int64) (h : mH) (r : Int64) (h' : mH) (hf : f_M_common_6  n b4 b6 h = some (r, h')), G sc y_M_common prog_10_method_69_code 10 (some .long) 0 0 6 [(4, .long b4), (6, .long b6)] [] h (some (.long r)) h'
  | 0, _, _, _, _, _, hf => by cases hf
  | n + 1, _, _, _, _, _, hf => t_M_common_6b  (f_M_common_6  n) (t_M_common_6  n) _ _ _ _ _ hf
def f_M_common_0  (a0 : Int64) (a1 : Int64) (h : mH) : Option (Int64 × mH) :=
  f_M_common_6  FU a0 a1 h
set_option maxRecDepth 20000 in
theorem t_M_common_0 {sc : Nat × (Nat → Int32)}  (a0 : Int64) (a1 : Int64) (h : mH) (r : Int64) (h' : mH) (hf : f_M_common_0  a0 a1 h = some (r, h')) : G sc y_M_common prog_10_method_69_code 10 (some .long) 0 0 0 [(0, .long a0), (2, .long a1)] [] h (some (.long r)) h' := by
  unfold f_M_common_0 at hf
  refine g_lload_n (pc := 0) 0 dd_M_common_0.1 rfl rfl ?_
  refine g_lstore (pc := 1) [(4, .long a0), (0, .long a0), (2, .long a1)] dd_M_common_0.2.1 (Nat.le_of_ble_eq_true rfl) rfl ?_
  refine g_lload_n (pc := 3) 2 dd_M_common_0.2.2.1 rfl rfl ?_
  refine g_lstore (pc := 4) [(6, .long a1), (4, .long a0), (0, .long a0), (2, .long a1)] dd_M_common_0.2.2.2.1 (Nat.le_of_ble_eq_true rfl) rfl ?_
  refine g_lv [1, 0] rfl ?_
  exact t_M_common_6  FU _ _ _ _ _  hf
def f_M_common (a0 : Int64) (a1 : Int64) (h : mH) : Option (Int64 × mH) := f_M_common_0 a0 a1 h
theorem c_M_common {sc : Nat × (Nat → Int32)} {a0 : Int64} {a1 : Int64} {h : mH} {r : Int64} {h' : mH} (hf : f_M_common a0 a1 h = some (r, h')) : MM sc y_M_common prog_10_method_69_code 10 (some .long) 0 0 [.long a0, .long a1] h (some (.long r)) h' :=
  mm_of_G si_pn_M (Nat.le_of_ble_eq_true rfl) (t_M_common_0 _ _ _ _ _ hf)
/-! M luck (II)J -/
set_option maxRecDepth 100000 in
theorem dd_M_luck_0 : (decode prog_10_method_70_code 0 = .ok (.aload_n 0, 1)) ∧ (decode prog_10_method_70_code 1 = .ok (.iload_n 1, 1)) ∧ (decode prog_10_method_70_code 2 = .ok (.invokevirtual 210, 3)) ∧ (decode prog_10_method_70_code 5 = .ok (.ifCond .eq 13, 3)) ∧ (decode prog_10_method_70_code 8 = .ok (.iload_n 2, 1)) ∧ (decode prog_10_method_70_code 9 = .ok (.i2l, 1)) ∧ (decode prog_10_method_70_code 10 = .ok (.lconst 0, 1)) ∧ (decode prog_10_method_70_code 11 = .ok (.lconst 1, 1)) ∧ (decode prog_10_method_70_code 12 = .ok (.invokestatic 114, 3)) ∧ (decode prog_10_method_70_code 15 = .ok (.ifCond .ne 7, 3)) ∧ (decode prog_10_method_70_code 18 = .ok (.ldc2_w 284, 3)) ∧ (decode prog_10_method_70_code 21 = .ok (.lreturn, 1)) ∧ (decode prog_10_method_70_code 22 = .ok (.lconst 1, 1)) ∧ (decode prog_10_method_70_code 23 = .ok (.lstore_n 3, 1)) ∧ (decode prog_10_method_70_code 24 = .ok (.iconst 0, 1)) ∧ (decode prog_10_method_70_code 25 = .ok (.istore 5, 2)) ∧ (decode prog_10_method_70_code 27 = .ok (.iload 5, 2)) ∧ (decode prog_10_method_70_code 29 = .ok (.bipush 16, 2)) ∧ (decode prog_10_method_70_code 31 = .ok (.if_icmp .ge 26, 3)) ∧ (decode prog_10_method_70_code 34 = .ok (.aload_n 0, 1)) ∧ (decode prog_10_method_70_code 35 = .ok (.getfield 68, 3)) ∧ (decode prog_10_method_70_code 38 = .ok (.iload 5, 2)) ∧ (decode prog_10_method_70_code 40 = .ok (.iload 5, 2)) ∧ (decode prog_10_method_70_code 42 = .ok (.ifCond .ne 7, 3)) := by
  have h : List.drop 0 prog_10_method_70_code.data.toList = 0x2a :: _ := rfl
  refine ⟨zq_k_n 42 h rfl (zq_o_42 _), ?_⟩
  replace h := zq_nx1 (q := 1) h rfl
  refine ⟨zq_k_n 27 h rfl (zq_o_27 _), ?_⟩
  replace h := zq_nx1 (q := 2) h rfl
  refine ⟨zq_k_u2 182 (fun z => .invokevirtual z) 210 h rfl (zq_o_182 _) (by decide +kernel), ?_⟩
  replace h := zq_nx3 (q := 5) h rfl
  refine ⟨zq_k_s2 153 (fun z => .ifCond .eq z) 13 h rfl (zq_o_153 _) (by decide +kernel), ?_⟩
  replace h := zq_nx3 (q := 8) h rfl
  refine ⟨zq_k_n 28 h rfl (zq_o_28 _), ?_⟩
  replace h := zq_nx1 (q := 9) h rfl
  refine ⟨zq_k_n 133 h rfl (zq_o_133 _), ?_⟩
  replace h := zq_nx1 (q := 10) h rfl
  refine ⟨zq_k_n 9 h rfl (zq_o_9 _), ?_⟩
  replace h := zq_nx1 (q := 11) h rfl
  refine ⟨zq_k_n 10 h rfl (zq_o_10 _), ?_⟩
  replace h := zq_nx1 (q := 12) h rfl
  refine ⟨zq_k_u2 184 (fun z => .invokestatic z) 114 h rfl (zq_o_184 _) (by decide +kernel), ?_⟩
  replace h := zq_nx3 (q := 15) h rfl
  refine ⟨zq_k_s2 154 (fun z => .ifCond .ne z) 7 h rfl (zq_o_154 _) (by decide +kernel), ?_⟩
  replace h := zq_nx3 (q := 18) h rfl
  refine ⟨zq_k_u2 20 (fun z => .ldc2_w z) 284 h rfl (zq_o_20 _) (by decide +kernel), ?_⟩
  replace h := zq_nx3 (q := 21) h rfl
  refine ⟨zq_k_n 173 h rfl (zq_o_173 _), ?_⟩
  replace h := zq_nx1 (q := 22) h rfl
  refine ⟨zq_k_n 10 h rfl (zq_o_10 _), ?_⟩
  replace h := zq_nx1 (q := 23) h rfl
  refine ⟨zq_k_n 66 h rfl (zq_o_66 _), ?_⟩
  replace h := zq_nx1 (q := 24) h rfl
  refine ⟨zq_k_n 3 h rfl (zq_o_3 _), ?_⟩
  replace h := zq_nx1 (q := 25) h rfl
  refine ⟨zq_k_u1 54 (fun z => .istore z) 5 h rfl (zq_o_54 _) (by decide +kernel), ?_⟩
  replace h := zq_nx2 (q := 27) h rfl
  refine ⟨zq_k_u1 21 (fun z => .iload z) 5 h rfl (zq_o_21 _) (by decide +kernel), ?_⟩
  replace h := zq_nx2 (q := 29) h rfl
  refine ⟨zq_k_s1 16 (fun z => .bipush z) 16 h rfl (zq_o_16 _) (by decide +kernel), ?_⟩
  replace h := zq_nx2 (q := 31) h rfl
  refine ⟨zq_k_s2 162 (fun z => .if_icmp .ge z) 26 h rfl (zq_o_162 _) (by decide +kernel), ?_⟩
  replace h := zq_nx3 (q := 34) h rfl
  refine ⟨zq_k_n 42 h rfl (zq_o_42 _), ?_⟩
  replace h := zq_nx1 (q := 35) h rfl
  refine ⟨zq_k_u2 180 (fun z => .getfield z) 68 h rfl (zq_o_180 _) (by decide +kernel), ?_⟩
  replace h := zq_nx3 (q := 38) h rfl
  refine ⟨zq_k_u1 21 (fun z => .iload z) 5 h rfl (zq_o_21 _) (by decide +kernel), ?_⟩
  replace h := zq_nx2 (q := 40) h rfl
  refine ⟨zq_k_u1 21 (fun z => .iload z) 5 h rfl (zq_o_21 _) (by decide +kernel), ?_⟩
  replace h := zq_nx2 (q := 42) h rfl
  exact zq_k_s2 154 (fun z => .ifCond .ne z) 7 h rfl (zq_o_154 _) (by decide +kernel)
set_option maxRecDepth 100000 in
theorem dd_M_luck_45 : (decode prog_10_method_70_code 45 = .ok (.lconst 1, 1)) ∧ (decode prog_10_method_70_code 46 = .ok (.goto 4, 3)) ∧ (decode prog_10_method_70_code 49 = .ok (.lconst 0, 1)) ∧ (decode prog_10_method_70_code 50 = .ok (.lastore, 1)) ∧ (decode prog_10_method_70_code 51 = .ok (.iinc 5 1, 3)) ∧ (decode prog_10_method_70_code 54 = .ok (.goto (-27), 3)) ∧ (decode prog_10_method_70_code 57 = .ok (.iconst 0, 1)) ∧ (decode prog_10_method_70_code 58 = .ok (.istore 5, 2)) ∧ (decode prog_10_method_70_code 60 = .ok (.iload 5, 2)) ∧ (decode prog_10_method_70_code 62 = .ok (.aload_n 0, 1)) ∧ (decode prog_10_method_70_code 63 = .ok (.getfield 109, 3)) ∧ (decode prog_10_method_70_code 66 = .ok (.if_icmp .ge 109, 3)) ∧ (decode prog_10_method_70_code 69 = .ok (.iconst 0, 1)) ∧ (decode prog_10_method_70_code 70 = .ok (.istore 6, 2)) ∧ (decode prog_10_method_70_code 72 = .ok (.iload 6, 2)) ∧ (decode prog_10_method_70_code 74 = .ok (.aload_n 0, 1)) ∧ (decode prog_10_method_70_code 75 = .ok (.iload 5, 2)) ∧ (decode prog_10_method_70_code 77 = .ok (.iload_n 1, 1)) ∧ (decode prog_10_method_70_code 78 = .ok (.invokevirtual 270, 3)) ∧ (decode prog_10_method_70_code 81 = .ok (.if_icmp .ge 88, 3)) ∧ (decode prog_10_method_70_code 84 = .ok (.bipush 15, 2)) ∧ (decode prog_10_method_70_code 86 = .ok (.istore 7, 2)) ∧ (decode prog_10_method_70_code 88 = .ok (.iload 7, 2)) ∧ (decode prog_10_method_70_code 90 = .ok (.ifCond .lt 67, 3)) := by
  have h : List.drop 45 prog_10_method_70_code.data.toList = 0x0a :: _ := rfl
  refine ⟨zq_k_n 10 h rfl (zq_o_10 _), ?_⟩
  replace h := zq_nx1 (q := 46) h rfl
  refine ⟨zq_k_s2 167 (fun z => .goto z) 4 h rfl (zq_o_167 _) (by decide +kernel), ?_⟩
  replace h := zq_nx3 (q := 49) h rfl
  refine ⟨zq_k_n 9 h rfl (zq_o_9 _), ?_⟩
  replace h := zq_nx1 (q := 50) h rfl
  refine ⟨zq_k_n 80 h rfl (zq_o_80 _), ?_⟩
  replace h := zq_nx1 (q := 51) h rfl
  refine ⟨zq_k_iinc 5 1 h rfl (zq_o_132 _) (by decide +kernel) (by decide +kernel), ?_⟩
  replace h := zq_nx3 (q := 54) h rfl
  refine ⟨zq_k_s2 167 (fun z => .goto z) (-27) h rfl (zq_o_167 _) (by decide +kernel), ?_⟩
  replace h := zq_nx3 (q := 57) h rfl
  refine ⟨zq_k_n 3 h rfl (zq_o_3 _), ?_⟩
  replace h := zq_nx1 (q := 58) h rfl
  refine ⟨zq_k_u1 54 (fun z => .istore z) 5 h rfl (zq_o_54 _) (by decide +kernel), ?_⟩
  replace h := zq_nx2 (q := 60) h rfl
  refine ⟨zq_k_u1 21 (fun z => .iload z) 5 h rfl (zq_o_21 _) (by decide +kernel), ?_⟩
  replace h := zq_nx2 (q := 62) h rfl
  refine ⟨zq_k_n 42 h rfl (zq_o_42 _), ?_⟩
  replace h := zq_nx1 (q := 63) h rfl
  refine ⟨zq_k_u2 180 (fun z => .getfield z) 109 h rfl (zq_o_180 _) (by decide +kernel), ?_⟩
  replace h := zq_nx3 (q := 66) h rfl
  refine ⟨zq_k_s2 162 (fun z => .if_icmp .ge z) 109 h rfl (zq_o_162 _) (by decide +kernel), ?_⟩
  replace h := zq_nx3 (q := 69) h rfl
  refine ⟨zq_k_n 3 h rfl (zq_o_3 _), ?_⟩
  replace h := zq_nx1 (q := 70) h rfl
  refine ⟨zq_k_u1 54 (fun z => .istore z) 6 h rfl (zq_o_54 _) (by decide +kernel), ?_⟩
  replace h := zq_nx2 (q := 72) h rfl
  refine ⟨zq_k_u1 21 (fun z => .iload z) 6 h rfl (zq_o_21 _) (by decide +kernel), ?_⟩
  replace h := zq_nx2 (q := 74) h rfl
  refine ⟨zq_k_n 42 h rfl (zq_o_42 _), ?_⟩
  replace h := zq_nx1 (q := 75) h rfl
  refine ⟨zq_k_u1 21 (fun z => .iload z) 5 h rfl (zq_o_21 _) (by decide +kernel), ?_⟩
  replace h := zq_nx2 (q := 77) h rfl
  refine ⟨zq_k_n 27 h rfl (zq_o_27 _), ?_⟩
  replace h := zq_nx1 (q := 78) h rfl
  refine ⟨zq_k_u2 182 (fun z => .invokevirtual z) 270 h rfl (zq_o_182 _) (by decide +kernel), ?_⟩
  replace h := zq_nx3 (q := 81) h rfl
  refine ⟨zq_k_s2 162 (fun z => .if_icmp .ge z) 88 h rfl (zq_o_162 _) (by decide +kernel), ?_⟩
  replace h := zq_nx3 (q := 84) h rfl
  refine ⟨zq_k_s1 16 (fun z => .bipush z) 15 h rfl (zq_o_16 _) (by decide +kernel), ?_⟩
  replace h := zq_nx2 (q := 86) h rfl
  refine ⟨zq_k_u1 54 (fun z => .istore z) 7 h rfl (zq_o_54 _) (by decide +kernel), ?_⟩
  replace h := zq_nx2 (q := 88) h rfl
  refine ⟨zq_k_u1 21 (fun z => .iload z) 7 h rfl (zq_o_21 _) (by decide +kernel), ?_⟩
  replace h := zq_nx2 (q := 90) h rfl
  exact zq_k_s2 155 (fun z => .ifCond .lt z) 67 h rfl (zq_o_155 _) (by decide +kernel)
set_option maxRecDepth 100000 in
theorem dd_M_luck_93 : (decode prog_10_method_70_code 93 = .ok (.iload 7, 2)) ∧ (decode prog_10_method_70_code 95 = .ok (.ifCond .ne 7, 3)) ∧ (decode prog_10_method_70_code 98 = .ok (.lconst 0, 1)) ∧ (decode prog_10_method_70_code 99 = .ok (.goto 12, 3)) ∧ (decode prog_10_method_70_code 102 = .ok (.aload_n 0, 1)) ∧ (decode prog_10_method_70_code 103 = .ok (.getfield 68, 3)) ∧ (decode prog_10_method_70_code 106 = .ok (.iload 7, 2)) ∧ (decode prog_10_method_70_code 108 = .ok (.iconst 1, 1)) ∧ (decode prog_10_method_70_code 109 = .ok (.isub, 1)) ∧ (decode prog_10_method_70_code 110 = .ok (.laload, 1)) ∧ (decode prog_10_method_70_code 111 = .ok (.lstore 8, 2)) ∧ (decode prog_10_method_70_code 113 = .ok (.aload_n 0, 1)) ∧ (decode prog_10_method_70_code 114 = .ok (.getfield 68, 3)) ∧ (decode prog_10_method_70_code 117 = .ok (.iload 7, 2)) ∧ (decode prog_10_method_70_code 119 = .ok (.aload_n 0, 1)) ∧ (decode prog_10_method_70_code 120 = .ok (.getfield 68, 3)) ∧ (decode prog_10_method_70_code 123 = .ok (.iload 7, 2)) ∧ (decode prog_10_method_70_code 125 = .ok (.laload, 1)) ∧ (decode prog_10_method_70_code 126 = .ok (.bipush 10, 2)) ∧ (decode prog_10_method_70_code 128 = .ok (.aload_n 0, 1)) ∧ (decode prog_10_method_70_code 129 = .ok (.getfield 29, 3)) ∧ (decode prog_10_method_70_code 132 = .ok (.iload 5, 2)) ∧ (decode prog_10_method_70_code 134 = .ok (.iaload, 1)) ∧ (decode prog_10_method_70_code 135 = .ok (.isub, 1)) := by
  have h : List.drop 93 prog_10_method_70_code.data.toList = 0x15 :: _ := rfl
  refine ⟨zq_k_u1 21 (fun z => .iload z) 7 h rfl (zq_o_21 _) (by decide +kernel), ?_⟩
  replace h := zq_nx2 (q := 95) h rfl
  refine ⟨zq_k_s2 154 (fun z => .ifCond .ne z) 7 h rfl (zq_o_154 _) (by decide +kernel), ?_⟩
  replace h := zq_nx3 (q := 98) h rfl
  refine ⟨zq_k_n 9 h rfl (zq_o_9 _), ?_⟩
  replace h := zq_nx1 (q := 99) h rfl
  refine ⟨zq_k_s2 167 (fun z => .goto z) 12 h rfl (zq_o_167 _) (by decide +kernel), ?_⟩
  replace h := zq_nx3 (q := 102) h rfl
  refine ⟨zq_k_n 42 h rfl (zq_o_42 _), ?_⟩
  replace h := zq_nx1 (q := 103) h rfl
  refine ⟨zq_k_u2 180 (fun z => .getfield z) 68 h rfl (zq_o_180 _) (by decide +kernel), ?_⟩
  replace h := zq_nx3 (q := 106) h rfl
  refine ⟨zq_k_u1 21 (fun z => .iload z) 7 h rfl (zq_o_21 _) (by decide +kernel), ?_⟩
  replace h := zq_nx2 (q := 108) h rfl
  refine ⟨zq_k_n 4 h rfl (zq_o_4 _), ?_⟩
  replace h := zq_nx1 (q := 109) h rfl
  refine ⟨zq_k_n 100 h rfl (zq_o_100 _), ?_⟩
  replace h := zq_nx1 (q := 110) h rfl
  refine ⟨zq_k_n 47 h rfl (zq_o_47 _), ?_⟩
  replace h := zq_nx1 (q := 111) h rfl
  refine ⟨zq_k_u1 55 (fun z => .lstore z) 8 h rfl (zq_o_55 _) (by decide +kernel), ?_⟩
  replace h := zq_nx2 (q := 113) h rfl
  refine ⟨zq_k_n 42 h rfl (zq_o_42 _), ?_⟩
  replace h := zq_nx1 (q := 114) h rfl
  refine ⟨zq_k_u2 180 (fun z => .getfield z) 68 h rfl (zq_o_180 _) (by decide +kernel), ?_⟩
  replace h := zq_nx3 (q := 117) h rfl
  refine ⟨zq_k_u1 21 (fun z => .iload z) 7 h rfl (zq_o_21 _) (by decide +kernel), ?_⟩
  replace h := zq_nx2 (q := 119) h rfl
  refine ⟨zq_k_n 42 h rfl (zq_o_42 _), ?_⟩
  replace h := zq_nx1 (q := 120) h rfl
  refine ⟨zq_k_u2 180 (fun z => .getfield z) 68 h rfl (zq_o_180 _) (by decide +kernel), ?_⟩
  replace h := zq_nx3 (q := 123) h rfl
  refine ⟨zq_k_u1 21 (fun z => .iload z) 7 h rfl (zq_o_21 _) (by decide +kernel), ?_⟩
  replace h := zq_nx2 (q := 125) h rfl
  refine ⟨zq_k_n 47 h rfl (zq_o_47 _), ?_⟩
  replace h := zq_nx1 (q := 126) h rfl
  refine ⟨zq_k_s1 16 (fun z => .bipush z) 10 h rfl (zq_o_16 _) (by decide +kernel), ?_⟩
  replace h := zq_nx2 (q := 128) h rfl
  refine ⟨zq_k_n 42 h rfl (zq_o_42 _), ?_⟩
  replace h := zq_nx1 (q := 129) h rfl
  refine ⟨zq_k_u2 180 (fun z => .getfield z) 29 h rfl (zq_o_180 _) (by decide +kernel), ?_⟩
  replace h := zq_nx3 (q := 132) h rfl
  refine ⟨zq_k_u1 21 (fun z => .iload z) 5 h rfl (zq_o_21 _) (by decide +kernel), ?_⟩
  replace h := zq_nx2 (q := 134) h rfl
  refine ⟨zq_k_n 46 h rfl (zq_o_46 _), ?_⟩
  replace h := zq_nx1 (q := 135) h rfl
  exact zq_k_n 100 h rfl (zq_o_100 _)
set_option maxRecDepth 100000 in
theorem dd_M_luck_136 : (decode prog_10_method_70_code 136 = .ok (.i2l, 1)) ∧ (decode prog_10_method_70_code 137 = .ok (.lmul, 1)) ∧ (decode prog_10_method_70_code 138 = .ok (.lload 8, 2)) ∧ (decode prog_10_method_70_code 140 = .ok (.aload_n 0, 1)) ∧ (decode prog_10_method_70_code 141 = .ok (.getfield 29, 3)) ∧ (decode prog_10_method_70_code 144 = .ok (.iload 5, 2)) ∧ (decode prog_10_method_70_code 146 = .ok (.iaload, 1)) ∧ (decode prog_10_method_70_code 147 = .ok (.i2l, 1)) ∧ (decode prog_10_method_70_code 148 = .ok (.lmul, 1)) ∧ (decode prog_10_method_70_code 149 = .ok (.ladd, 1)) ∧ (decode prog_10_method_70_code 150 = .ok (.lastore, 1)) ∧ (decode prog_10_method_70_code 151 = .ok (.iinc 7 (-1), 3)) ∧ (decode prog_10_method_70_code 154 = .ok (.goto (-66), 3)) ∧ (decode prog_10_method_70_code 157 = .ok (.lload_n 3, 1)) ∧ (decode prog_10_method_70_code 158 = .ok (.ldc2_w 286, 3)) ∧ (decode prog_10_method_70_code 161 = .ok (.lmul, 1)) ∧ (decode prog_10_method_70_code 162 = .ok (.lstore_n 3, 1)) ∧ (decode prog_10_method_70_code 163 = .ok (.iinc 6 1, 3)) ∧ (decode prog_10_method_70_code 166 = .ok (.goto (-94), 3)) ∧ (decode prog_10_method_70_code 169 = .ok (.iinc 5 1, 3)) ∧ (decode prog_10_method_70_code 172 = .ok (.goto (-112), 3)) ∧ (decode prog_10_method_70_code 175 = .ok (.lconst 0, 1)) ∧ (decode prog_10_method_70_code 176 = .ok (.lstore 5, 2)) ∧ (decode prog_10_method_70_code 178 = .ok (.aload_n 0, 1)) := by
  have h : List.drop 136 prog_10_method_70_code.data.toList = 0x85 :: _ := rfl
  refine ⟨zq_k_n 133 h rfl (zq_o_133 _), ?_⟩
  replace h := zq_nx1 (q := 137) h rfl
  refine ⟨zq_k_n 105 h rfl (zq_o_105 _), ?_⟩
  replace h := zq_nx1 (q := 138) h rfl
  refine ⟨zq_k_u1 22 (fun z => .lload z) 8 h rfl (zq_o_22 _) (by decide +kernel), ?_⟩
  replace h := zq_nx2 (q := 140) h rfl
  refine ⟨zq_k_n 42 h rfl (zq_o_42 _), ?_⟩
  replace h := zq_nx1 (q := 141) h rfl
  refine ⟨zq_k_u2 180 (fun z => .getfield z) 29 h rfl (zq_o_180 _) (by decide +kernel), ?_⟩
  replace h := zq_nx3 (q := 144) h rfl
  refine ⟨zq_k_u1 21 (fun z => .iload z) 5 h rfl (zq_o_21 _) (by decide +kernel), ?_⟩
  replace h := zq_nx2 (q := 146) h rfl
  refine ⟨zq_k_n 46 h rfl (zq_o_46 _), ?_⟩
  replace h := zq_nx1 (q := 147) h rfl
  refine ⟨zq_k_n 133 h rfl (zq_o_133 _), ?_⟩
  replace h := zq_nx1 (q := 148) h rfl
  refine ⟨zq_k_n 105 h rfl (zq_o_105 _), ?_⟩
  replace h := zq_nx1 (q := 149) h rfl
  refine ⟨zq_k_n 97 h rfl (zq_o_97 _), ?_⟩
  replace h := zq_nx1 (q := 150) h rfl
  refine ⟨zq_k_n 80 h rfl (zq_o_80 _), ?_⟩
  replace h := zq_nx1 (q := 151) h rfl
  refine ⟨zq_k_iinc 7 (-1) h rfl (zq_o_132 _) (by decide +kernel) (by decide +kernel), ?_⟩
  replace h := zq_nx3 (q := 154) h rfl
  refine ⟨zq_k_s2 167 (fun z => .goto z) (-66) h rfl (zq_o_167 _) (by decide +kernel), ?_⟩
  replace h := zq_nx3 (q := 157) h rfl
  refine ⟨zq_k_n 33 h rfl (zq_o_33 _), ?_⟩
  replace h := zq_nx1 (q := 158) h rfl
  refine ⟨zq_k_u2 20 (fun z => .ldc2_w z) 286 h rfl (zq_o_20 _) (by decide +kernel), ?_⟩
  replace h := zq_nx3 (q := 161) h rfl
  refine ⟨zq_k_n 105 h rfl (zq_o_105 _), ?_⟩
  replace h := zq_nx1 (q := 162) h rfl
  refine ⟨zq_k_n 66 h rfl (zq_o_66 _), ?_⟩
  replace h := zq_nx1 (q := 163) h rfl
  refine ⟨zq_k_iinc 6 1 h rfl (zq_o_132 _) (by decide +kernel) (by decide +kernel), ?_⟩
  replace h := zq_nx3 (q := 166) h rfl
  refine ⟨zq_k_s2 167 (fun z => .goto z) (-94) h rfl (zq_o_167 _) (by decide +kernel), ?_⟩
  replace h := zq_nx3 (q := 169) h rfl
  refine ⟨zq_k_iinc 5 1 h rfl (zq_o_132 _) (by decide +kernel) (by decide +kernel), ?_⟩
  replace h := zq_nx3 (q := 172) h rfl
  refine ⟨zq_k_s2 167 (fun z => .goto z) (-112) h rfl (zq_o_167 _) (by decide +kernel), ?_⟩
  replace h := zq_nx3 (q := 175) h rfl
  refine ⟨zq_k_n 9 h rfl (zq_o_9 _), ?_⟩
  replace h := zq_nx1 (q := 176) h rfl
  refine ⟨zq_k_u1 55 (fun z => .lstore z) 5 h rfl (zq_o_55 _) (by decide +kernel), ?_⟩
  replace h := zq_nx2 (q := 178) h rfl
  exact zq_k_n 42 h rfl (zq_o_42 _)
set_option maxRecDepth 100000 in
theorem dd_M_luck_179 : (decode prog_10_method_70_code 179 = .ok (.iload_n 1, 1)) ∧ (decode prog_10_method_70_code 180 = .ok (.invokevirtual 204, 3)) ∧ (decode prog_10_method_70_code 183 = .ok (.istore 7, 2)) ∧ (decode prog_10_method_70_code 185 = .ok (.iload 7, 2)) ∧ (decode prog_10_method_70_code 187 = .ok (.bipush 16, 2)) ∧ (decode prog_10_method_70_code 189 = .ok (.if_icmp .ge 21, 3)) ∧ (decode prog_10_method_70_code 192 = .ok (.lload 5, 2)) ∧ (decode prog_10_method_70_code 194 = .ok (.aload_n 0, 1)) ∧ (decode prog_10_method_70_code 195 = .ok (.getfield 68, 3)) ∧ (decode prog_10_method_70_code 198 = .ok (.iload 7, 2)) ∧ (decode prog_10_method_70_code 200 = .ok (.laload, 1)) ∧ (decode prog_10_method_70_code 201 = .ok (.ladd, 1)) ∧ (decode prog_10_method_70_code 202 = .ok (.lstore 5, 2)) ∧ (decode prog_10_method_70_code 204 = .ok (.iinc 7 1, 3)) ∧ (decode prog_10_method_70_code 207 = .ok (.goto (-22), 3)) ∧ (decode prog_10_method_70_code 210 = .ok (.lload_n 3, 1)) ∧ (decode prog_10_method_70_code 211 = .ok (.lload 5, 2)) ∧ (decode prog_10_method_70_code 213 = .ok (.invokestatic 288, 3)) ∧ (decode prog_10_method_70_code 216 = .ok (.lstore 7, 2)) ∧ (decode prog_10_method_70_code 218 = .ok (.iload_n 2, 1)) ∧ (decode prog_10_method_70_code 219 = .ok (.ifCond .ne 11, 3)) ∧ (decode prog_10_method_70_code 222 = .ok (.lload 5, 2)) ∧ (decode prog_10_method_70_code 224 = .ok (.lload 7, 2)) ∧ (decode prog_10_method_70_code 226 = .ok (.ldiv, 1)) := by
  have h : List.drop 179 prog_10_method_70_code.data.toList = 0x1b :: _ := rfl
  refine ⟨zq_k_n 27 h rfl (zq_o_27 _), ?_⟩
  replace h := zq_nx1 (q := 180) h rfl
  refine ⟨zq_k_u2 182 (fun z => .invokevirtual z) 204 h rfl (zq_o_182 _) (by decide +kernel), ?_⟩
  replace h := zq_nx3 (q := 183) h rfl
  refine ⟨zq_k_u1 54 (fun z => .istore z) 7 h rfl (zq_o_54 _) (by decide +kernel), ?_⟩
  replace h := zq_nx2 (q := 185) h rfl
  refine ⟨zq_k_u1 21 (fun z => .iload z) 7 h rfl (zq_o_21 _) (by decide +kernel), ?_⟩
  replace h := zq_nx2 (q := 187) h rfl
  refine ⟨zq_k_s1 16 (fun z => .bipush z) 16 h rfl (zq_o_16 _) (by decide +kernel), ?_⟩
  replace h := zq_nx2 (q := 189) h rfl
  refine ⟨zq_k_s2 162 (fun z => .if_icmp .ge z) 21 h rfl (zq_o_162 _) (by decide +kernel), ?_⟩
  replace h := zq_nx3 (q := 192) h rfl
  refine ⟨zq_k_u1 22 (fun z => .lload z) 5 h rfl (zq_o_22 _) (by decide +kernel), ?_⟩
  replace h := zq_nx2 (q := 194) h rfl
  refine ⟨zq_k_n 42 h rfl (zq_o_42 _), ?_⟩
  replace h := zq_nx1 (q := 195) h rfl
  refine ⟨zq_k_u2 180 (fun z => .getfield z) 68 h rfl (zq_o_180 _) (by decide +kernel), ?_⟩
  replace h := zq_nx3 (q := 198) h rfl
  refine ⟨zq_k_u1 21 (fun z => .iload z) 7 h rfl (zq_o_21 _) (by decide +kernel), ?_⟩
  replace h := zq_nx2 (q := 200) h rfl
  refine ⟨zq_k_n 47 h rfl (zq_o_47 _), ?_⟩
  replace h := zq_nx1 (q := 201) h rfl
  refine ⟨zq_k_n 97 h rfl (zq_o_97 _), ?_⟩
  replace h := zq_nx1 (q := 202) h rfl
  refine ⟨zq_k_u1 55 (fun z => .lstore z) 5 h rfl (zq_o_55 _) (by decide +kernel), ?_⟩
  replace h := zq_nx2 (q := 204) h rfl
  refine ⟨zq_k_iinc 7 1 h rfl (zq_o_132 _) (by decide +kernel) (by decide +kernel), ?_⟩
  replace h := zq_nx3 (q := 207) h rfl
  refine ⟨zq_k_s2 167 (fun z => .goto z) (-22) h rfl (zq_o_167 _) (by decide +kernel), ?_⟩
  replace h := zq_nx3 (q := 210) h rfl
  refine ⟨zq_k_n 33 h rfl (zq_o_33 _), ?_⟩
  replace h := zq_nx1 (q := 211) h rfl
  refine ⟨zq_k_u1 22 (fun z => .lload z) 5 h rfl (zq_o_22 _) (by decide +kernel), ?_⟩
  replace h := zq_nx2 (q := 213) h rfl
  refine ⟨zq_k_u2 184 (fun z => .invokestatic z) 288 h rfl (zq_o_184 _) (by decide +kernel), ?_⟩
  replace h := zq_nx3 (q := 216) h rfl
  refine ⟨zq_k_u1 55 (fun z => .lstore z) 7 h rfl (zq_o_55 _) (by decide +kernel), ?_⟩
  replace h := zq_nx2 (q := 218) h rfl
  refine ⟨zq_k_n 28 h rfl (zq_o_28 _), ?_⟩
  replace h := zq_nx1 (q := 219) h rfl
  refine ⟨zq_k_s2 154 (fun z => .ifCond .ne z) 11 h rfl (zq_o_154 _) (by decide +kernel), ?_⟩
  replace h := zq_nx3 (q := 222) h rfl
  refine ⟨zq_k_u1 22 (fun z => .lload z) 5 h rfl (zq_o_22 _) (by decide +kernel), ?_⟩
  replace h := zq_nx2 (q := 224) h rfl
  refine ⟨zq_k_u1 22 (fun z => .lload z) 7 h rfl (zq_o_22 _) (by decide +kernel), ?_⟩
  replace h := zq_nx2 (q := 226) h rfl
  exact zq_k_n 109 h rfl (zq_o_109 _)
set_option maxRecDepth 100000 in
theorem dd_M_luck_227 : (decode prog_10_method_70_code 227 = .ok (.goto 7, 3)) ∧ (decode prog_10_method_70_code 230 = .ok (.lload_n 3, 1)) ∧ (decode prog_10_method_70_code 231 = .ok (.lload 7, 2)) ∧ (decode prog_10_method_70_code 233 = .ok (.ldiv, 1)) ∧ (decode prog_10_method_70_code 234 = .ok (.lreturn, 1)) := by
  have h : List.drop 227 prog_10_method_70_code.data.toList = 0xa7 :: _ := rfl
  refine ⟨zq_k_s2 167 (fun z => .goto z) 7 h rfl (zq_o_167 _) (by decide +kernel), ?_⟩
  replace h := zq_nx3 (q := 230) h rfl
  refine ⟨zq_k_n 33 h rfl (zq_o_33 _), ?_⟩
  replace h := zq_nx1 (q := 231) h rfl
  refine ⟨zq_k_u1 22 (fun z => .lload z) 7 h rfl (zq_o_22 _) (by decide +kernel), ?_⟩
  replace h := zq_nx2 (q := 233) h rfl
  refine ⟨zq_k_n 109 h rfl (zq_o_109 _), ?_⟩
  replace h := zq_nx1 (q := 234) h rfl
  exact zq_k_n 173 h rfl (zq_o_173 _)
def f_M_luck_185b (rec185 : Nat → Int32 → Int64 → Int64 → Int32 → mH → Option (Int64 × mH)) (b0 : Nat) (b2 : Int32) (b3 : Int64) (b5 : Int64) (b7 : Int32) (h : mH) : Option (Int64 × mH) :=
  if (16 : Int32) ≤ b7 then
    bd2 (f_M_common b3 b5 h) fun x55 h53 =>
    if b2 = 0 then
      if x55 = 0 then none else
      some (b5 / x55, h53)
    else
      if x55 = 0 then none else
      some (b3 / x55, h53)
  else
    bd1 (gR h b0 8 32) fun x59 =>
    bd1 (aL h x59 b7) fun x61 =>
    rec185 b0 b2 b3 (b5 + x61) (b7 + (1 : Int32)) h
set_option maxRecDepth 20000 in
theorem t_M_luck_185b {sc : Nat × (Nat → Int32)} (rec185 : Nat → Int32 → Int64 → Int64 → Int32 → mH → Option (Int64 × mH)) (hrec185 : ∀ (b0 : Nat) (b2 : Int32) (b3 : Int64) (b5 : Int64) (b7 : Int32) (h : mH) (r : Int64) (h' : mH), rec185 b0 b2 b3 b5 b7 h = some (r, h') → G sc y_M_luck prog_10_method_70_code 10 (some .long) 4 90 185 [(0, .ref b0), (2, .int b2), (3, .long b3), (5, .long b5), (7, .int b7)] [] h (some (.long r)) h') (b0 : Nat) (b2 : Int32) (b3 : Int64) (b5 : Int64) (b7 : Int32) (h : mH) (r : Int64) (h' : mH) (hf : f_M_luck_185b rec185 b0 b2 b3 b5 b7 h = some (r, h')) : G sc y_M_luck prog_10_method_70_code 10 (some .long) 4 90 185 [(0, .ref b0), (2, .int b2), (3, .long b3), (5, .long b5), (7, .int b7)] [] h (some (.long r)) h' := by
  unfold f_M_luck_185b at hf
  refine g_iload (pc := 185) 4 dd_M_luck_179.2.2.2.1 rfl ?_
  refine g_bipush (pc := 187) (16 : Int32) dd_M_luck_179.2.2.2.2.1 (by decide) ?_
  refine g_icmpge (pc := 189) 210 dd_M_luck_179.2.2.2.2.2.1 (by decide) (fun c63 => ?_) (fun c63 => ?_)
  · replace hf := (if_pos c63).symm.trans hf
    refine g_lload_n (pc := 210) 2 dd_M_luck_179.2.2.2.2.2.2.2.2.2.2.2.2.2.2.2.1 rfl rfl ?_
    refine g_lload (pc := 211) 3 dd_M_luck_179.2.2.2.2.2.2.2.2.2.2.2.2.2.2.2.2.1 rfl ?_
    obtain ⟨x55, h53, e54, hf⟩ := bd2_e hf
    refine g_callS (pc := 213) [.long b3, .long b5] (site_of si_M_common (by decide) (by decide)) wd_1325 wd_1326 dd_M_luck_179.2.2.2.2.2.2.2.2.2.2.2.2.2.2.2.2.2.1 (Nat.le_of_ble_eq_true rfl) (fun z => absurd z si_na_M_common) (fun z => absurd z si_na_M_common) (fun z => absurd z si_na_M_common) (c_M_common e54) rfl ?_
    refine g_st [.long x55] rfl ?_
    refine g_lstore (pc := 216) [(7, .long x55), (0, .ref b0), (2, .int b2), (3, .long b3), (5, .long b5)] dd_M_luck_179.2.2.2.2.2.2.2.2.2.2.2.2.2.2.2.2.2.2.1 (Nat.le_of_ble_eq_true rfl) rfl ?_
    refine g_iload_n (pc := 218) 2 dd_M_luck_179.2.2.2.2.2.2.2.2.2.2.2.2.2.2.2.2.2.2.2.1 rfl rfl ?_
    refine g_ifne (pc := 219) 230 dd_M_luck_179.2.2.2.2.2.2.2.2.2.2.2.2.2.2.2.2.2.2.2.2.1 (by decide) (fun c58 => ?_) (fun c58 => ?_)
    · replace hf := (if_neg c58).symm.trans hf
      refine g_lload_n (pc := 230) 3 dd_M_luck_227.2.1 rfl rfl ?_
      refine g_lload (pc := 231) 0 dd_M_luck_227.2.2.1 rfl ?_
      have c56 : ¬ x55 = 0 := fun z => absurd ((if_pos z).symm.trans hf) (by simp)
      replace hf := (if_neg c56).symm.trans hf
      refine g_ldiv (pc := 233) dd_M_luck_227.2.2.2.1 c56 ?_
      obtain ⟨rfl, rfl⟩ := ret2 hf
      exact g_lret (pc := 234) rfl dd_M_luck_227.2.2.2.2
    · replace hf := (if_pos c58).symm.trans hf
      refine g_lload (pc := 222) 4 dd_M_luck_179.2.2.2.2.2.2.2.2.2.2.2.2.2.2.2.2.2.2.2.2.2.1 rfl ?_
      refine g_lload (pc := 224) 0 dd_M_luck_179.2.2.2.2.2.2.2.2.2.2.2.2.2.2.2.2.2.2.2.2.2.2.1 rfl ?_
      have c57 : ¬ x55 = 0 := fun z => absurd ((if_pos z).symm.trans hf) (by simp)
      replace hf := (if_neg c57).symm.trans hf
      refine g_ldiv (pc := 226) dd_M_luck_179.2.2.2.2.2.2.2.2.2.2.2.2.2.2.2.2.2.2.2.2.2.2.2 c57 ?_
      refine g_goto (pc := 227) 234 dd_M_luck_227.1 (by decide) ?_
      obtain ⟨rfl, rfl⟩ := ret2 hf
      exact g_lret (pc := 234) rfl dd_M_luck_227.2.2.2.2
  · replace hf := (if_neg c63).symm.trans hf
    refine g_lload (pc := 192) 3 dd_M_luck_179.2.2.2.2.2.2.1 rfl ?_
    refine g_aload_n (pc := 194) 0 dd_M_luck_179.2.2.2.2.2.2.2.1 rfl rfl ?_
    obtain ⟨x59, e60, hf⟩ := bd1_e hf
    refine g_get (pc := 195) (ci := 8) (kk := 32) dd_M_luck_179.2.2.2.2.2.2.2.2.1 rfl in_M (by decide) wd_970 (gR_spec e60) ?_
    refine g_iload (pc := 198) 4 dd_M_luck_179.2.2.2.2.2.2.2.2.2.1 rfl ?_
    obtain ⟨x61, e62, hf⟩ := bd1_e hf
    refine g_lald (pc := 200) dd_M_luck_179.2.2.2.2.2.2.2.2.2.2.1 e62 ?_
    refine g_ladd (pc := 201) dd_M_luck_179.2.2.2.2.2.2.2.2.2.2.2.1 ?_
    refine g_lstore (pc := 202) [(5, .long (b5 + x61)), (0, .ref b0), (2, .int b2), (3, .long b3), (7, .int b7)] dd_M_luck_179.2.2.2.2.2.2.2.2.2.2.2.2.1 (Nat.le_of_ble_eq_true rfl) rfl ?_
    refine g_iinc (pc := 204) 4 (b7 + (1 : Int32)) [(7, .int (b7 + (1 : Int32))), (5, .long (b5 + x61)), (0, .ref b0), (2, .int b2), (3, .long b3)] dd_M_luck_179.2.2.2.2.2.2.2.2.2.2.2.2.2.1 rfl rfl (Nat.le_of_ble_eq_true rfl) rfl ?_
    refine g_goto (pc := 207) 185 dd_M_luck_179.2.2.2.2.2.2.2.2.2.2.2.2.2.2.1 (by decide) ?_
    refine g_lv [2, 3, 4, 1, 0] rfl ?_
    exact hrec185 _ _ _ _ _ _ _ _  hf
def f_M_luck_185  : Nat → Nat → Int32 → Int64 → Int64 → Int32 → mH → Option (Int64 × mH)
  | 0 => fun _ _ _ _ _ _ => none
  | n + 1 => f_M_luck_185b  (f_M_luck_185  n)
theorem t_M_luck_185 {sc : Nat × (Nat → Int32)}  : ∀ (n : Nat) (b0 : Nat) (b2 : Int32) (b3 : Int64) (b5 : Int64) (b7 : Int32) (h : mH) (r : Int64) (h' : mH) (hf : f_M_luck_185  n b0 b2 b3 b5 b7 h = some (r, h')), G sc y_M_luck prog_10_method_70_code 10 (some .long) 4 90 185 [(0, .ref b0), (2, .int b2), (3, .long b3), (5, .long b5), (7, .int b7)] [] h (some (.long r)) h'
  | 0, _, _, _, _, _, _, _, _, hf => by cases hf
  | n + 1, _, _, _, _, _, _, _, _, hf => t_M_luck_185b  (f_M_luck_185  n) (t_M_luck_185  n) _ _ _ _ _ _ _ _ hf
def f_M_luck_111 (rec60 : Nat → Int32 → Int32 → Int64 → Int32 → mH → Option (Int64 × mH)) (rec72 : Nat → Int32 → Int32 → Int64 → Int32 → Int32 → mH → Option (Int64 × mH)) (rec88 : Nat → Int32 → Int32 → Int64 → Int32 → Int32 → Int32 → mH → Option (Int64 × mH)) (b0 : Nat) (b1 : Int32) (b2 : Int32) (b3 : Int64) (b5 : Int32) (b6 : Int32) (b7 : Int32) (s0 : Int64) (h : mH) : Option (Int64 × mH) :=
  bd1 (gR h b0 8 32) fun x37 =>
  bd1 (gR h b0 8 32) fun x39 =>
  bd1 (aL h x39 b7) fun x41 =>
  bd1 (gR h b0 8 8) fun x43 =>
  bd1 (aI h 0 x43 b5) fun x45 =>
  bd1 (gR h b0 8 8) fun x47 =>
  bd1 (aI h 0 x47 b5) fun x49 =>
  bd1 (sL h x37 b7 ((x41 * (((10 : Int32) - x45).toInt64)) + (s0 * x49.toInt64))) fun h51 =>
  rec88 b0 b1 b2 b3 b5 b6 (b7 + ((-1) : Int32)) h51
set_option maxRecDepth 20000 in
theorem t_M_luck_111 {sc : Nat × (Nat → Int32)} (rec60 : Nat → Int32 → Int32 → Int64 → Int32 → mH → Option (Int64 × mH)) (hrec60 : ∀ (b0 : Nat) (b1 : Int32) (b2 : Int32) (b3 : Int64) (b5 : Int32) (h : mH) (r : Int64) (h' : mH), rec60 b0 b1 b2 b3 b5 h = some (r, h') → G sc y_M_luck prog_10_method_70_code 10 (some .long) 4 90 60 [(0, .ref b0), (1, .int b1), (2, .int b2), (3, .long b3), (5, .int b5)] [] h (some (.long r)) h') (rec72 : Nat → Int32 → Int32 → Int64 → Int32 → Int32 → mH → Option (Int64 × mH)) (hrec72 : ∀ (b0 : Nat) (b1 : Int32) (b2 : Int32) (b3 : Int64) (b5 : Int32) (b6 : Int32) (h : mH) (r : Int64) (h' : mH), rec72 b0 b1 b2 b3 b5 b6 h = some (r, h') → G sc y_M_luck prog_10_method_70_code 10 (some .long) 4 90 72 [(0, .ref b0), (1, .int b1), (2, .int b2), (3, .long b3), (5, .int b5), (6, .int b6)] [] h (some (.long r)) h') (rec88 : Nat → Int32 → Int32 → Int64 → Int32 → Int32 → Int32 → mH → Option (Int64 × mH)) (hrec88 : ∀ (b0 : Nat) (b1 : Int32) (b2 : Int32) (b3 : Int64) (b5 : Int32) (b6 : Int32) (b7 : Int32) (h : mH) (r : Int64) (h' : mH), rec88 b0 b1 b2 b3 b5 b6 b7 h = some (r, h') → G sc y_M_luck prog_10_method_70_code 10 (some .long) 4 90 88 [(0, .ref b0), (1, .int b1), (2, .int b2), (3, .long b3), (5, .int b5), (6, .int b6), (7, .int b7)] [] h (some (.long r)) h') (b0 : Nat) (b1 : Int32) (b2 : Int32) (b3 : Int64) (b5 : Int32) (b6 : Int32) (b7 : Int32) (s0 : Int64) (h : mH) (r : Int64) (h' : mH) (hf : f_M_luck_111 rec60 rec72 rec88 b0 b1 b2 b3 b5 b6 b7 s0 h = some (r, h')) : G sc y_M_luck prog_10_method_70_code 10 (some .long) 4 90 111 [(0, .ref b0), (1, .int b1), (2, .int b2), (3, .long b3), (5, .int b5), (6, .int b6), (7, .int b7)] [.long s0] h (some (.long r)) h' := by
  unfold f_M_luck_111 at hf
  refine g_lstore (pc := 111) [(8, .long s0), (0, .ref b0), (1, .int b1), (2, .int b2), (3, .long b3), (5, .int b5), (6, .int b6), (7, .int b7)] dd_M_luck_93.2.2.2.2.2.2.2.2.2.2.1 (Nat.le_of_ble_eq_true rfl) rfl ?_
  refine g_aload_n (pc := 113) 1 dd_M_luck_93.2.2.2.2.2.2.2.2.2.2.2.1 rfl rfl ?_
  obtain ⟨x37, e38, hf⟩ := bd1_e hf
  refine g_get (pc := 114) (ci := 8) (kk := 32) dd_M_luck_93.2.2.2.2.2.2.2.2.2.2.2.2.1 rfl in_M (by decide) wd_970 (gR_spec e38) ?_
  refine g_iload (pc := 117) 7 dd_M_luck_93.2.2.2.2.2.2.2.2.2.2.2.2.2.1 rfl ?_
  refine g_aload_n (pc := 119) 1 dd_M_luck_93.2.2.2.2.2.2.2.2.2.2.2.2.2.2.1 rfl rfl ?_
  obtain ⟨x39, e40, hf⟩ := bd1_e hf
  refine g_get (pc := 120) (ci := 8) (kk := 32) dd_M_luck_93.2.2.2.2.2.2.2.2.2.2.2.2.2.2.2.1 rfl in_M (by decide) wd_970 (gR_spec e40) ?_
  refine g_iload (pc := 123) 7 dd_M_luck_93.2.2.2.2.2.2.2.2.2.2.2.2.2.2.2.2.1 rfl ?_
  obtain ⟨x41, e42, hf⟩ := bd1_e hf
  refine g_lald (pc := 125) dd_M_luck_93.2.2.2.2.2.2.2.2.2.2.2.2.2.2.2.2.2.1 e42 ?_
  refine g_bipush (pc := 126) (10 : Int32) dd_M_luck_93.2.2.2.2.2.2.2.2.2.2.2.2.2.2.2.2.2.2.1 (by decide) ?_
  refine g_aload_n (pc := 128) 1 dd_M_luck_93.2.2.2.2.2.2.2.2.2.2.2.2.2.2.2.2.2.2.2.1 rfl rfl ?_
  obtain ⟨x43, e44, hf⟩ := bd1_e hf
  refine g_get (pc := 129) (ci := 8) (kk := 8) dd_M_luck_93.2.2.2.2.2.2.2.2.2.2.2.2.2.2.2.2.2.2.2.2.1 rfl in_M (by decide) wd_946 (gR_spec e44) ?_
  refine g_iload (pc := 132) 5 dd_M_luck_93.2.2.2.2.2.2.2.2.2.2.2.2.2.2.2.2.2.2.2.2.2.1 rfl ?_
  obtain ⟨x45, e46, hf⟩ := bd1_e hf
  refine g_iald (pc := 134) dd_M_luck_93.2.2.2.2.2.2.2.2.2.2.2.2.2.2.2.2.2.2.2.2.2.2.1 e46 ?_
  refine g_isub (pc := 135) dd_M_luck_93.2.2.2.2.2.2.2.2.2.2.2.2.2.2.2.2.2.2.2.2.2.2.2 ?_
  refine g_i2l (pc := 136) dd_M_luck_136.1 ?_
  refine g_lmul (pc := 137) dd_M_luck_136.2.1 ?_
  refine g_lload (pc := 138) 0 dd_M_luck_136.2.2.1 rfl ?_
  refine g_aload_n (pc := 140) 1 dd_M_luck_136.2.2.2.1 rfl rfl ?_
  obtain ⟨x47, e48, hf⟩ := bd1_e hf
  refine g_get (pc := 141) (ci := 8) (kk := 8) dd_M_luck_136.2.2.2.2.1 rfl in_M (by decide) wd_946 (gR_spec e48) ?_
  refine g_iload (pc := 144) 5 dd_M_luck_136.2.2.2.2.2.1 rfl ?_
  obtain ⟨x49, e50, hf⟩ := bd1_e hf
  refine g_iald (pc := 146) dd_M_luck_136.2.2.2.2.2.2.1 e50 ?_
  refine g_i2l (pc := 147) dd_M_luck_136.2.2.2.2.2.2.2.1 ?_
  refine g_lmul (pc := 148) dd_M_luck_136.2.2.2.2.2.2.2.2.1 ?_
  refine g_ladd (pc := 149) dd_M_luck_136.2.2.2.2.2.2.2.2.2.1 ?_
  obtain ⟨h51, e52, hf⟩ := bd1_e hf
  refine g_last (pc := 150) dd_M_luck_136.2.2.2.2.2.2.2.2.2.2.1 e52 ?_
  refine g_iinc (pc := 151) 7 (b7 + ((-1) : Int32)) [(7, .int (b7 + ((-1) : Int32))), (8, .long s0), (0, .ref b0), (1, .int b1), (2, .int b2), (3, .long b3), (5, .int b5), (6, .int b6)] dd_M_luck_136.2.2.2.2.2.2.2.2.2.2.2.1 rfl rfl (Nat.le_of_ble_eq_true rfl) rfl ?_
  refine g_goto (pc := 154) 88 dd_M_luck_136.2.2.2.2.2.2.2.2.2.2.2.2.1 (by decide) ?_
  refine g_lv [2, 3, 4, 5, 6, 7, 0] rfl ?_
  exact hrec88 _ _ _ _ _ _ _ _ _ _  hf
def f_M_luck_88b (rec60 : Nat → Int32 → Int32 → Int64 → Int32 → mH → Option (Int64 × mH)) (rec72 : Nat → Int32 → Int32 → Int64 → Int32 → Int32 → mH → Option (Int64 × mH)) (rec88 : Nat → Int32 → Int32 → Int64 → Int32 → Int32 → Int32 → mH → Option (Int64 × mH)) (b0 : Nat) (b1 : Int32) (b2 : Int32) (b3 : Int64) (b5 : Int32) (b6 : Int32) (b7 : Int32) (h : mH) : Option (Int64 × mH) :=
  if b7 < 0 then
    rec72 b0 b1 b2 (b3 * (10 : Int64)) b5 (b6 + (1 : Int32)) h
  else
    if b7 = 0 then
      f_M_luck_111 rec60 rec72 rec88 b0 b1 b2 b3 b5 b6 b7 (0 : Int64) h
    else
      bd1 (gR h b0 8 32) fun x31 =>
      bd1 (aL h x31 (b7 - (1 : Int32))) fun x33 =>
      f_M_luck_111 rec60 rec72 rec88 b0 b1 b2 b3 b5 b6 b7 x33 h
set_option maxRecDepth 20000 in
theorem t_M_luck_88b {sc : Nat × (Nat → Int32)} (rec60 : Nat → Int32 → Int32 → Int64 → Int32 → mH → Option (Int64 × mH)) (hrec60 : ∀ (b0 : Nat) (b1 : Int32) (b2 : Int32) (b3 : Int64) (b5 : Int32) (h : mH) (r : Int64) (h' : mH), rec60 b0 b1 b2 b3 b5 h = some (r, h') → G sc y_M_luck prog_10_method_70_code 10 (some .long) 4 90 60 [(0, .ref b0), (1, .int b1), (2, .int b2), (3, .long b3), (5, .int b5)] [] h (some (.long r)) h') (rec72 : Nat → Int32 → Int32 → Int64 → Int32 → Int32 → mH → Option (Int64 × mH)) (hrec72 : ∀ (b0 : Nat) (b1 : Int32) (b2 : Int32) (b3 : Int64) (b5 : Int32) (b6 : Int32) (h : mH) (r : Int64) (h' : mH), rec72 b0 b1 b2 b3 b5 b6 h = some (r, h') → G sc y_M_luck prog_10_method_70_code 10 (some .long) 4 90 72 [(0, .ref b0), (1, .int b1), (2, .int b2), (3, .long b3), (5, .int b5), (6, .int b6)] [] h (some (.long r)) h') (rec88 : Nat → Int32 → Int32 → Int64 → Int32 → Int32 → Int32 → mH → Option (Int64 × mH)) (hrec88 : ∀ (b0 : Nat) (b1 : Int32) (b2 : Int32) (b3 : Int64) (b5 : Int32) (b6 : Int32) (b7 : Int32) (h : mH) (r : Int64) (h' : mH), rec88 b0 b1 b2 b3 b5 b6 b7 h = some (r, h') → G sc y_M_luck prog_10_method_70_code 10 (some .long) 4 90 88 [(0, .ref b0), (1, .int b1), (2, .int b2), (3, .long b3), (5, .int b5), (6, .int b6), (7, .int b7)] [] h (some (.long r)) h') (b0 : Nat) (b1 : Int32) (b2 : Int32) (b3 : Int64) (b5 : Int32) (b6 : Int32) (b7 : Int32) (h : mH) (r : Int64) (h' : mH) (hf : f_M_luck_88b rec60 rec72 rec88 b0 b1 b2 b3 b5 b6 b7 h = some (r, h')) : G sc y_M_luck prog_10_method_70_code 10 (some .long) 4 90 88 [(0, .ref b0), (1, .int b1), (2, .int b2), (3, .long b3), (5, .int b5), (6, .int b6), (7, .int b7)] [] h (some (.long r)) h' := by
  unfold f_M_luck_88b at hf
  refine g_iload (pc := 88) 6 dd_M_luck_45.2.2.2.2.2.2.2.2.2.2.2.2.2.2.2.2.2.2.2.2.2.2.1 rfl ?_
  refine g_iflt (pc := 90) 157 dd_M_luck_45.2.2.2.2.2.2.2.2.2.2.2.2.2.2.2.2.2.2.2.2.2.2.2 (by decide) (fun c36 => ?_) (fun c36 => ?_)
  · replace hf := (if_pos c36).symm.trans hf
    refine g_lload_n (pc := 157) 3 dd_M_luck_136.2.2.2.2.2.2.2.2.2.2.2.2.2.1 rfl rfl ?_
    refine g_ldc2 (pc := 158) (10 : Int64) dd_M_luck_136.2.2.2.2.2.2.2.2.2.2.2.2.2.2.1 wd_1324 ?_
    refine g_lmul (pc := 161) dd_M_luck_136.2.2.2.2.2.2.2.2.2.2.2.2.2.2.2.1 ?_
    refine g_lstore_n (pc := 162) [(3, .long (b3 * (10 : Int64))), (0, .ref b0), (1, .int b1), (2, .int b2), (5, .int b5), (6, .int b6), (7, .int b7)] dd_M_luck_136.2.2.2.2.2.2.2.2.2.2.2.2.2.2.2.2.1 rfl (Nat.le_of_ble_eq_true rfl) rfl ?_
    refine g_iinc (pc := 163) 5 (b6 + (1 : Int32)) [(6, .int (b6 + (1 : Int32))), (3, .long (b3 * (10 : Int64))), (0, .ref b0), (1, .int b1), (2, .int b2), (5, .int b5), (7, .int b7)] dd_M_luck_136.2.2.2.2.2.2.2.2.2.2.2.2.2.2.2.2.2.1 rfl rfl (Nat.le_of_ble_eq_true rfl) rfl ?_
    refine g_goto (pc := 166) 72 dd_M_luck_136.2.2.2.2.2.2.2.2.2.2.2.2.2.2.2.2.2.2.1 (by decide) ?_
    refine g_lv [2, 3, 4, 1, 5, 0] rfl ?_
    exact hrec72 _ _ _ _ _ _ _ _ _  hf
  · replace hf := (if_neg c36).symm.trans hf
    refine g_iload (pc := 93) 6 dd_M_luck_93.1 rfl ?_
    refine g_ifne (pc := 95) 102 dd_M_luck_93.2.1 (by decide) (fun c35 => ?_) (fun c35 => ?_)
    · replace hf := (if_neg c35).symm.trans hf
      refine g_aload_n (pc := 102) 0 dd_M_luck_93.2.2.2.2.1 rfl rfl ?_
      obtain ⟨x31, e32, hf⟩ := bd1_e hf
      refine g_get (pc := 103) (ci := 8) (kk := 32) dd_M_luck_93.2.2.2.2.2.1 rfl in_M (by decide) wd_970 (gR_spec e32) ?_
      refine g_iload (pc := 106) 6 dd_M_luck_93.2.2.2.2.2.2.1 rfl ?_
      refine g_iconst (pc := 108) (1 : Int32) dd_M_luck_93.2.2.2.2.2.2.2.1 (by decide) ?_
      refine g_isub (pc := 109) dd_M_luck_93.2.2.2.2.2.2.2.2.1 ?_
      obtain ⟨x33, e34, hf⟩ := bd1_e hf
      refine g_lald (pc := 110) dd_M_luck_93.2.2.2.2.2.2.2.2.2.1 e34 ?_
      refine g_lv [0, 1, 2, 3, 4, 5, 6] rfl ?_
      exact t_M_luck_111 rec60 hrec60 rec72 hrec72 rec88 hrec88 _ _ _ _ _ _ _ _ _ _ _  hf
    · replace hf := (if_pos c35).symm.trans hf
      refine g_lconst (pc := 98) (0 : Int64) dd_M_luck_93.2.2.1 (by decide) ?_
      refine g_goto (pc := 99) 111 dd_M_luck_93.2.2.2.1 (by decide) ?_
      refine g_lv [0, 1, 2, 3, 4, 5, 6] rfl ?_
      exact t_M_luck_111 rec60 hrec60 rec72 hrec72 rec88 hrec88 _ _ _ _ _ _ _ _ _ _ _  hf
def f_M_luck_88 (rec60 : Nat → Int32 → Int32 → Int64 → Int32 → mH → Option (Int64 × mH)) (rec72 : Nat → Int32 → Int32 → Int64 → Int32 → Int32 → mH → Option (Int64 × mH)) : Nat → Nat → Int32 → Int32 → Int64 → Int32 → Int32 → Int32 → mH → Option (Int64 × mH)
  | 0 => fun _ _ _ _ _ _ _ _ => none
  | n + 1 => f_M_luck_88b rec60 rec72 (f_M_luck_88 rec60 rec72 n)
theorem t_M_luck_88 {sc : Nat × (Nat → Int32)} (rec60 : Nat → Int32 → Int32 → Int64 → Int32 → mH → Option (Int64 × mH)) (hrec60 : ∀ (b0 : Nat) (b1 : Int32) (b2 : Int32) (b3 : Int64) (b5 : Int32) (h : mH) (r : Int64) (h' : mH), rec60 b0 b1 b2 b3 b5 h = some (r, h') → G sc y_M_luck prog_10_method_70_code 10 (some .long) 4 90 60 [(0, .ref b0), (1, .int b1), (2, .int b2), (3, .long b3), (5, .int b5)] [] h (some (.long r)) h') (rec72 : Nat → Int32 → Int32 → Int64 → Int32 → Int32 → mH → Option (Int64 × mH)) (hrec72 : ∀ (b0 : Nat) (b1 : Int32) (b2 : Int32) (b3 : Int64) (b5 : Int32) (b6 : Int32) (h : mH) (r : Int64) (h' : mH), rec72 b0 b1 b2 b3 b5 b6 h = some (r, h') → G sc y_M_luck prog_10_method_70_code 10 (some .long) 4 90 72 [(0, .ref b0), (1, .int b1), (2, .int b2), (3, .long b3), (5, .int b5), (6, .int b6)] [] h (some (.long r)) h') : ∀ (n : Nat) (b0 : Nat) (b1 : Int32) (b2 : Int32) (b3 : Int64) (b5 : Int32) (b6 : Int32) (b7 : Int32) (h : mH) (r : Int64) (h' : mH) (hf : f_M_luck_88 rec60 rec72 n b0 b1 b2 b3 b5 b6 b7 h = some (r, h')), G sc y_M_luck prog_10_method_70_code 10 (some .long) 4 90 88 [(0, .ref b0), (1, .int b1), (2, .int b2), (3, .long b3), (5, .int b5), (6, .int b6), (7, .int b7)] [] h (some (.long r)) h'
  | 0, _, _, _, _, _, _, _, _, _, _, hf => by cases hf
  | n + 1, _, _, _, _, _, _, _, _, _, _, hf => t_M_luck_88b rec60 hrec60 rec72 hrec72 (f_M_luck_88 rec60 rec72 n) (t_M_luck_88 rec60 hrec60 rec72 hrec72 n) _ _ _ _ _ _ _ _ _ _ hf
def f_M_luck_72b (rec60 : Nat → Int32 → Int32 → Int64 → Int32 → mH → Option (Int64 × mH)) (rec72 : Nat → Int32 → Int32 → Int64 → Int32 → Int32 → mH → Option (Int64 × mH)) (b0 : Nat) (b1 : Int32) (b2 : Int32) (b3 : Int64) (b5 : Int32) (b6 : Int32) (h : mH) : Option (Int64 × mH) :=
  bd1 (kC h b0 8) fun _ =>
  bd2 (f_M_triesOf b0 b5 b1 h) fun x29 h27 =>
  if x29 ≤ b6 then
    rec60 b0 b1 b2 b3 (b5 + (1 : Int32)) h27
  else
    f_M_luck_88 rec60 rec72 FU b0 b1 b2 b3 b5 b6 (15 : Int32) h27
set_option maxRecDepth 20000 in
theorem t_M_luck_72b {sc : Nat × (Nat → Int32)} (rec60 : Nat → Int32 → Int32 → Int64 → Int32 → mH → Option (Int64 × mH)) (hrec60 : ∀ (b0 : Nat) (b1 : Int32) (b2 : Int32) (b3 : Int64) (b5 : Int32) (h : mH) (r : Int64) (h' : mH), rec60 b0 b1 b2 b3 b5 h = some (r, h') → G sc y_M_luck prog_10_method_70_code 10 (some .long) 4 90 60 [(0, .ref b0), (1, .int b1), (2, .int b2), (3, .long b3), (5, .int b5)] [] h (some (.long r)) h') (rec72 : Nat → Int32 → Int32 → Int64 → Int32 → Int32 → mH → Option (Int64 × mH)) (hrec72 : ∀ (b0 : Nat) (b1 : Int32) (b2 : Int32) (b3 : Int64) (b5 : Int32) (b6 : Int32) (h : mH) (r : Int64) (h' : mH), rec72 b0 b1 b2 b3 b5 b6 h = some (r, h') → G sc y_M_luck prog_10_method_70_code 10 (some .long) 4 90 72 [(0, .ref b0), (1, .int b1), (2, .int b2), (3, .long b3), (5, .int b5), (6, .int b6)] [] h (some (.long r)) h') (b0 : Nat) (b1 : Int32) (b2 : Int32) (b3 : Int64) (b5 : Int32) (b6 : Int32) (h : mH) (r : Int64) (h' : mH) (hf : f_M_luck_72b rec60 rec72 b0 b1 b2 b3 b5 b6 h = some (r, h')) : G sc y_M_luck prog_10_method_70_code 10 (some .long) 4 90 72 [(0, .ref b0), (1, .int b1), (2, .int b2), (3, .long b3), (5, .int b5), (6, .int b6)] [] h (some (.long r)) h' := by
  unfold f_M_luck_72b at hf
  refine g_iload (pc := 72) 5 dd_M_luck_45.2.2.2.2.2.2.2.2.2.2.2.2.2.2.1 rfl ?_
  refine g_aload_n (pc := 74) 0 dd_M_luck_45.2.2.2.2.2.2.2.2.2.2.2.2.2.2.2.1 rfl rfl ?_
  refine g_iload (pc := 75) 4 dd_M_luck_45.2.2.2.2.2.2.2.2.2.2.2.2.2.2.2.2.1 rfl ?_
  refine g_iload_n (pc := 77) 1 dd_M_luck_45.2.2.2.2.2.2.2.2.2.2.2.2.2.2.2.2.2.1 rfl rfl ?_
  obtain ⟨u26, e25, hf⟩ := bd1_e hf
  obtain ⟨x29, h27, e28, hf⟩ := bd2_e hf
  refine g_callV (pc := 78) (ci := 8) [.int b5, .int b1] (site_of si_M_triesOf (by decide) (by decide)) wd_1298 wd_1300 wp_63 dd_M_luck_45.2.2.2.2.2.2.2.2.2.2.2.2.2.2.2.2.2.2.1 rfl e25 (Nat.le_of_ble_eq_true rfl) (fun z => absurd z si_na_M_triesOf) (fun z => absurd z si_na_M_triesOf) (fun z => absurd z si_na_M_triesOf) (c_M_triesOf e28) rfl ?_
  refine g_st [.int x29, .int b6] rfl ?_
  refine g_icmpge (pc := 81) 169 dd_M_luck_45.2.2.2.2.2.2.2.2.2.2.2.2.2.2.2.2.2.2.2.1 (by decide) (fun c30 => ?_) (fun c30 => ?_)
  · replace hf := (if_pos c30).symm.trans hf
    refine g_iinc (pc := 169) 4 (b5 + (1 : Int32)) [(5, .int (b5 + (1 : Int32))), (0, .ref b0), (1, .int b1), (2, .int b2), (3, .long b3), (6, .int b6)] dd_M_luck_136.2.2.2.2.2.2.2.2.2.2.2.2.2.2.2.2.2.2.2.1 rfl rfl (Nat.le_of_ble_eq_true rfl) rfl ?_
    refine g_goto (pc := 172) 60 dd_M_luck_136.2.2.2.2.2.2.2.2.2.2.2.2.2.2.2.2.2.2.2.2.1 (by decide) ?_
    refine g_lv [1, 2, 3, 4, 0] rfl ?_
    exact hrec60 _ _ _ _ _ _ _ _  hf
  · replace hf := (if_neg c30).symm.trans hf
    refine g_bipush (pc := 84) (15 : Int32) dd_M_luck_45.2.2.2.2.2.2.2.2.2.2.2.2.2.2.2.2.2.2.2.2.1 (by decide) ?_
    refine g_istore (pc := 86) [(7, .int (15 : Int32)), (0, .ref b0), (1, .int b1), (2, .int b2), (3, .long b3), (5, .int b5), (6, .int b6)] dd_M_luck_45.2.2.2.2.2.2.2.2.2.2.2.2.2.2.2.2.2.2.2.2.2.1 (Nat.le_of_ble_eq_true rfl) rfl ?_
    refine g_lv [1, 2, 3, 4, 5, 6, 0] rfl ?_
    exact t_M_luck_88 rec60 hrec60 rec72 hrec72 FU _ _ _ _ _ _ _ _ _ _  hf
def f_M_luck_72 (rec60 : Nat → Int32 → Int32 → Int64 → Int32 → mH → Option (Int64 × mH)) : Nat → Nat → Int32 → Int32 → Int64 → Int32 → Int32 → mH → Option (Int64 × mH)
  | 0 => fun _ _ _ _ _ _ _ => none
  | n + 1 => f_M_luck_72b rec60 (f_M_luck_72 rec60 n)
theorem t_M_luck_72 {sc : Nat × (Nat → Int32)} (rec60 : Nat → Int32 → Int32 → Int64 → Int32 → mH → Option (Int64 × mH)) (hrec60 : ∀ (b0 : Nat) (b1 : Int32) (b2 : Int32) (b3 : Int64) (b5 : Int32) (h : mH) (r : Int64) (h' : mH), rec60 b0 b1 b2 b3 b5 h = some (r, h') → G sc y_M_luck prog_10_method_70_code 10 (some .long) 4 90 60 [(0, .ref b0), (1, .int b1), (2, .int b2), (3, .long b3), (5, .int b5)] [] h (some (.long r)) h') : ∀ (n : Nat) (b0 : Nat) (b1 : Int32) (b2 : Int32) (b3 : Int64) (b5 : Int32) (b6 : Int32) (h : mH) (r : Int64) (h' : mH) (hf : f_M_luck_72 rec60 n b0 b1 b2 b3 b5 b6 h = some (r, h')), G sc y_M_luck prog_10_method_70_code 10 (some .long) 4 90 72 [(0, .ref b0), (1, .int b1), (2, .int b2), (3, .long b3), (5, .int b5), (6, .int b6)] [] h (some (.long r)) h'
  | 0, _, _, _, _, _, _, _, _, _, hf => by cases hf
  | n + 1, _, _, _, _, _, _, _, _, _, hf => t_M_luck_72b rec60 hrec60 (f_M_luck_72 rec60 n) (t_M_luck_72 rec60 hrec60 n) _ _ _ _ _ _ _ _ _ hf
def f_M_luck_60b (rec60 : Nat → Int32 → Int32 → Int64 → Int32 → mH → Option (Int64 × mH)) (b0 : Nat) (b1 : Int32) (b2 : Int32) (b3 : Int64) (b5 : Int32) (h : mH) : Option (Int64 × mH) :=
  bd1 (gI h b0 8 3) fun x17 =>
  if x17 ≤ b5 then
    bd1 (kC h b0 8) fun _ =>
    bd2 (f_M_needOf b0 b1 h) fun x23 h21 =>
    f_M_luck_185  FU b0 b2 b3 (0 : Int64) x23 h21
  else
    f_M_luck_72 rec60 FU b0 b1 b2 b3 b5 (0 : Int32) h
set_option maxRecDepth 20000 in
theorem t_M_luck_60b {sc : Nat × (Nat → Int32)} (rec60 : Nat → Int32 → Int32 → Int64 → Int32 → mH → Option (Int64 × mH)) (hrec60 : ∀ (b0 : Nat) (b1 : Int32) (b2 : Int32) (b3 : Int64) (b5 : Int32) (h : mH) (r : Int64) (h' : mH), rec60 b0 b1 b2 b3 b5 h = some (r, h') → G sc y_M_luck prog_10_method_70_code 10 (some .long) 4 90 60 [(0, .ref b0), (1, .int b1), (2, .int b2), (3, .long b3), (5, .int b5)] [] h (some (.long r)) h') (b0 : Nat) (b1 : Int32) (b2 : Int32) (b3 : Int64) (b5 : Int32) (h : mH) (r : Int64) (h' : mH) (hf : f_M_luck_60b rec60 b0 b1 b2 b3 b5 h = some (r, h')) : G sc y_M_luck prog_10_method_70_code 10 (some .long) 4 90 60 [(0, .ref b0), (1, .int b1), (2, .int b2), (3, .long b3), (5, .int b5)] [] h (some (.long r)) h' := by
  unfold f_M_luck_60b at hf
  refine g_iload (pc := 60) 4 dd_M_luck_45.2.2.2.2.2.2.2.2.1 rfl ?_
  refine g_aload_n (pc := 62) 0 dd_M_luck_45.2.2.2.2.2.2.2.2.2.1 rfl rfl ?_
  obtain ⟨x17, e18, hf⟩ := bd1_e hf
  refine g_get (pc := 63) (ci := 8) (kk := 3) dd_M_luck_45.2.2.2.2.2.2.2.2.2.2.1 rfl in_M (by decide) wd_941 (gI_spec e18) ?_
  refine g_icmpge (pc := 66) 175 dd_M_luck_45.2.2.2.2.2.2.2.2.2.2.2.1 (by decide) (fun c24 => ?_) (fun c24 => ?_)
  · replace hf := (if_pos c24).symm.trans hf
    refine g_lconst (pc := 175) (0 : Int64) dd_M_luck_136.2.2.2.2.2.2.2.2.2.2.2.2.2.2.2.2.2.2.2.2.2.1 (by decide) ?_
    refine g_lstore (pc := 176) [(5, .long (0 : Int64)), (0, .ref b0), (1, .int b1), (2, .int b2), (3, .long b3)] dd_M_luck_136.2.2.2.2.2.2.2.2.2.2.2.2.2.2.2.2.2.2.2.2.2.2.1 (Nat.le_of_ble_eq_true rfl) rfl ?_
    refine g_aload_n (pc := 178) 1 dd_M_luck_136.2.2.2.2.2.2.2.2.2.2.2.2.2.2.2.2.2.2.2.2.2.2.2 rfl rfl ?_
    refine g_iload_n (pc := 179) 2 dd_M_luck_179.1 rfl rfl ?_
    obtain ⟨u20, e19, hf⟩ := bd1_e hf
    obtain ⟨x23, h21, e22, hf⟩ := bd2_e hf
    refine g_callV (pc := 180) (ci := 8) [.int b1] (site_of si_M_needOf (by decide) (by decide)) wd_1140 wd_1142 wp_45 dd_M_luck_179.2.1 rfl e19 (Nat.le_of_ble_eq_true rfl) (fun z => absurd z si_na_M_needOf) (fun z => absurd z si_na_M_needOf) (fun z => absurd z si_na_M_needOf) (c_M_needOf e22) rfl ?_
    refine g_st [.int x23] rfl ?_
    refine g_istore (pc := 183) [(7, .int x23), (5, .long (0 : Int64)), (0, .ref b0), (1, .int b1), (2, .int b2), (3, .long b3)] dd_M_luck_179.2.2.1 (Nat.le_of_ble_eq_true rfl) rfl ?_
    refine g_lv [2, 4, 5, 1, 0] rfl ?_
    exact t_M_luck_185  FU _ _ _ _ _ _ _ _  hf
  · replace hf := (if_neg c24).symm.trans hf
    refine g_iconst (pc := 69) (0 : Int32) dd_M_luck_45.2.2.2.2.2.2.2.2.2.2.2.2.1 (by decide) ?_
    refine g_istore (pc := 70) [(6, .int (0 : Int32)), (0, .ref b0), (1, .int b1), (2, .int b2), (3, .long b3), (5, .int b5)] dd_M_luck_45.2.2.2.2.2.2.2.2.2.2.2.2.2.1 (Nat.le_of_ble_eq_true rfl) rfl ?_
    refine g_lv [1, 2, 3, 4, 5, 0] rfl ?_
    exact t_M_luck_72 rec60 hrec60 FU _ _ _ _ _ _ _ _ _  hf
def f_M_luck_60  : Nat → Nat → Int32 → Int32 → Int64 → Int32 → mH → Option (Int64 × mH)
  | 0 => fun _ _ _ _ _ _ => none
  | n + 1 => f_M_luck_60b  (f_M_luck_60  n)
theorem t_M_luck_60 {sc : Nat × (Nat → Int32)}  : ∀ (n : Nat) (b0 : Nat) (b1 : Int32) (b2 : Int32) (b3 : Int64) (b5 : Int32) (h : mH) (r : Int64) (h' : mH) (hf : f_M_luck_60  n b0 b1 b2 b3 b5 h = some (r, h')), G sc y_M_luck prog_10_method_70_code 10 (some .long) 4 90 60 [(0, .ref b0), (1, .int b1), (2, .int b2), (3, .long b3), (5, .int b5)] [] h (some (.long r)) h'
  | 0, _, _, _, _, _, _, _, _, hf => by cases hf
  | n + 1, _, _, _, _, _, _, _, _, hf => t_M_luck_60b  (f_M_luck_60  n) (t_M_luck_60  n) _ _ _ _ _ _ _ _ hf
def f_M_luck_50 (rec27 : Nat → Int32 → Int32 → Int64 → Int32 → mH → Option (Int64 × mH)) (b0 : Nat) (b1 : Int32) (b2 : Int32) (b3 : Int64) (b5 : Int32) (s0 : Nat) (s1 : Int32) (s2 : Int64) (h : mH) : Option (Int64 × mH) :=
  bd1 (sL h s0 s1 s2) fun h15 =>
  rec27 b0 b1 b2 b3 (b5 + (1 : Int32)) h15
set_option maxRecDepth 20000 in
theorem t_M_luck_50 {sc : Nat × (Nat → Int32)} (rec27 : Nat → Int32 → Int32 → Int64 → Int32 → mH → Option (Int64 × mH)) (hrec27 : ∀ (b0 : Nat) (b1 : Int32) (b2 : Int32) (b3 : Int64) (b5 : Int32) (h : mH) (r : Int64) (h' : mH), rec27 b0 b1 b2 b3 b5 h = some (r, h') → G sc y_M_luck prog_10_method_70_code 10 (some .long) 4 90 27 [(0, .ref b0), (1, .int b1), (2, .int b2), (3, .long b3), (5, .int b5)] [] h (some (.long r)) h') (b0 : Nat) (b1 : Int32) (b2 : Int32) (b3 : Int64) (b5 : Int32) (s0 : Nat) (s1 : Int32) (s2 : Int64) (h : mH) (r : Int64) (h' : mH) (hf : f_M_luck_50 rec27 b0 b1 b2 b3 b5 s0 s1 s2 h = some (r, h')) : G sc y_M_luck prog_10_method_70_code 10 (some .long) 4 90 50 [(0, .ref b0), (1, .int b1), (2, .int b2), (3, .long b3), (5, .int b5)] [.long s2, .int s1, .ref s0] h (some (.long r)) h' := by
  unfold f_M_luck_50 at hf
  obtain ⟨h15, e16, hf⟩ := bd1_e hf
  refine g_last (pc := 50) dd_M_luck_45.2.2.2.1 e16 ?_
  refine g_iinc (pc := 51) 4 (b5 + (1 : Int32)) [(5, .int (b5 + (1 : Int32))), (0, .ref b0), (1, .int b1), (2, .int b2), (3, .long b3)] dd_M_luck_45.2.2.2.2.1 rfl rfl (Nat.le_of_ble_eq_true rfl) rfl ?_
  refine g_goto (pc := 54) 27 dd_M_luck_45.2.2.2.2.2.1 (by decide) ?_
  refine g_lv [1, 2, 3, 4, 0] rfl ?_
  exact hrec27 _ _ _ _ _ _ _ _  hf
def f_M_luck_27b (rec27 : Nat → Int32 → Int32 → Int64 → Int32 → mH → Option (Int64 × mH)) (b0 : Nat) (b1 : Int32) (b2 : Int32) (b3 : Int64) (b5 : Int32) (h : mH) : Option (Int64 × mH) :=
  if (16 : Int32) ≤ b5 then
    f_M_luck_60  FU b0 b1 b2 b3 (0 : Int32) h
  else
    bd1 (gR h b0 8 32) fun x11 =>
    if b5 = 0 then
      f_M_luck_50 rec27 b0 b1 b2 b3 b5 x11 b5 (1 : Int64) h
    else
      f_M_luck_50 rec27 b0 b1 b2 b3 b5 x11 b5 (0 : Int64) h
set_option maxRecDepth 20000 in
theorem t_M_luck_27b {sc : Nat × (Nat → Int32)} (rec27 : Nat → Int32 → Int32 → Int64 → Int32 → mH → Option (Int64 × mH)) (hrec27 : ∀ (b0 : Nat) (b1 : Int32) (b2 : Int32) (b3 : Int64) (b5 : Int32) (h : mH) (r : Int64) (h' : mH), rec27 b0 b1 b2 b3 b5 h = some (r, h') → G sc y_M_luck prog_10_method_70_code 10 (some .long) 4 90 27 [(0, .ref b0), (1, .int b1), (2, .int b2), (3, .long b3), (5, .int b5)] [] h (some (.long r)) h') (b0 : Nat) (b1 : Int32) (b2 : Int32) (b3 : Int64) (b5 : Int32) (h : mH) (r : Int64) (h' : mH) (hf : f_M_luck_27b rec27 b0 b1 b2 b3 b5 h = some (r, h')) : G sc y_M_luck prog_10_method_70_code 10 (some .long) 4 90 27 [(0, .ref b0), (1, .int b1), (2, .int b2), (3, .long b3), (5, .int b5)] [] h (some (.long r)) h' := by
  unfold f_M_luck_27b at hf
  refine g_iload (pc := 27) 4 dd_M_luck_0.2.2.2.2.2.2.2.2.2.2.2.2.2.2.2.2.1 rfl ?_
  refine g_bipush (pc := 29) (16 : Int32) dd_M_luck_0.2.2.2.2.2.2.2.2.2.2.2.2.2.2.2.2.2.1 (by decide) ?_
  refine g_icmpge (pc := 31) 57 dd_M_luck_0.2.2.2.2.2.2.2.2.2.2.2.2.2.2.2.2.2.2.1 (by decide) (fun c14 => ?_) (fun c14 => ?_)
  · replace hf := (if_pos c14).symm.trans hf
    refine g_iconst (pc := 57) (0 : Int32) dd_M_luck_45.2.2.2.2.2.2.1 (by decide) ?_
    refine g_istore (pc := 58) [(5, .int (0 : Int32)), (0, .ref b0), (1, .int b1), (2, .int b2), (3, .long b3)] dd_M_luck_45.2.2.2.2.2.2.2.1 (Nat.le_of_ble_eq_true rfl) rfl ?_
    refine g_lv [1, 2, 3, 4, 0] rfl ?_
    exact t_M_luck_60  FU _ _ _ _ _ _ _ _  hf
  · replace hf := (if_neg c14).symm.trans hf
    refine g_aload_n (pc := 34) 0 dd_M_luck_0.2.2.2.2.2.2.2.2.2.2.2.2.2.2.2.2.2.2.2.1 rfl rfl ?_
    obtain ⟨x11, e12, hf⟩ := bd1_e hf
    refine g_get (pc := 35) (ci := 8) (kk := 32) dd_M_luck_0.2.2.2.2.2.2.2.2.2.2.2.2.2.2.2.2.2.2.2.2.1 rfl in_M (by decide) wd_970 (gR_spec e12) ?_
    refine g_iload (pc := 38) 4 dd_M_luck_0.2.2.2.2.2.2.2.2.2.2.2.2.2.2.2.2.2.2.2.2.2.1 rfl ?_
    refine g_iload (pc := 40) 4 dd_M_luck_0.2.2.2.2.2.2.2.2.2.2.2.2.2.2.2.2.2.2.2.2.2.2.1 rfl ?_
    refine g_ifne (pc := 42) 49 dd_M_luck_0.2.2.2.2.2.2.2.2.2.2.2.2.2.2.2.2.2.2.2.2.2.2.2 (by decide) (fun c13 => ?_) (fun c13 => ?_)
    · replace hf := (if_neg c13).symm.trans hf
      refine g_lconst (pc := 49) (0 : Int64) dd_M_luck_45.2.2.1 (by decide) ?_
      refine g_lv [0, 1, 2, 3, 4] rfl ?_
      exact t_M_luck_50 rec27 hrec27 _ _ _ _ _ _ _ _ _ _ _  hf
    · replace hf := (if_pos c13).symm.trans hf
      refine g_lconst (pc := 45) (1 : Int64) dd_M_luck_45.1 (by decide) ?_
      refine g_goto (pc := 46) 50 dd_M_luck_45.2.1 (by decide) ?_
      refine g_lv [0, 1, 2, 3, 4] rfl ?_
      exact t_M_luck_50 rec27 hrec27 _ _ _ _ _ _ _ _ _ _ _  hf
def f_M_luck_27  : Nat → Nat → Int32 → Int32 → Int64 → Int32 → mH → Option (Int64 × mH)
  | 0 => fun _ _ _ _ _ _ => none
  | n + 1 => f_M_luck_27b  (f_M_luck_27  n)
theorem t_M_luck_27 {sc : Nat × (Nat → Int32)}  : ∀ (n : Nat) (b0 : Nat) (b1 : Int32) (b2 : Int32) (b3 : Int64) (b5 : Int32) (h : mH) (r : Int64) (h' : mH) (hf : f_M_luck_27  n b0 b1 b2 b3 b5 h = some (r, h')), G sc y_M_luck prog_10_method_70_code 10 (some .long) 4 90 27 [(0, .ref b0), (1, .int b1), (2, .int b2), (3, .long b3), (5, .int b5)] [] h (some (.long r)) h'
  | 0, _, _, _, _, _, _, _, _, hf => by cases hf
  | n + 1, _, _, _, _, _, _, _, _, hf => t_M_luck_27b  (f_M_luck_27  n) (t_M_luck_27  n) _ _ _ _ _ _ _ _ hf
def f_M_luck_18   (h : mH) : Option (Int64 × mH) :=
  some (((-1) : Int64), h)
set_option maxRecDepth 20000 in
theorem t_M_luck_18 {sc : Nat × (Nat → Int32)}   (h : mH) (r : Int64) (h' : mH) (hf : f_M_luck_18   h = some (r, h')) : G sc y_M_luck prog_10_method_70_code 10 (some .long) 4 90 18 [] [] h (some (.long r)) h' := by
  unfold f_M_luck_18 at hf
  refine g_ldc2 (pc := 18) ((-1) : Int64) dd_M_luck_0.2.2.2.2.2.2.2.2.2.2.1 wd_1323 ?_
  obtain ⟨rfl, rfl⟩ := ret2 hf
  exact g_lret (pc := 21) rfl dd_M_luck_0.2.2.2.2.2.2.2.2.2.2.2.1
def f_M_luck_0  (a0 : Nat) (a1 : Int32) (a2 : Int32) (h : mH) : Option (Int64 × mH) :=
  bd1 (kC h a0 8) fun _ =>
  bd2 (f_M_isLaw a0 a1 h) fun x5 h3 =>
  if x5 = 0 then
    f_M_luck_18  h3
  else
    bd2 (f_M_in a2.toInt64 (0 : Int64) (1 : Int64) h3) fun x8 h6 =>
    if x8 = 0 then
      f_M_luck_18  h6
    else
      f_M_luck_27  FU a0 a1 a2 (1 : Int64) (0 : Int32) h6
set_option maxRecDepth 20000 in
theorem t_M_luck_0 {sc : Nat × (Nat → Int32)}  (a0 : Nat) (a1 : Int32) (a2 : Int32) (h : mH) (r : Int64) (h' : mH) (hf : f_M_luck_0  a0 a1 a2 h = some (r, h')) : G sc y_M_luck prog_10_method_70_code 10 (some .long) 4 90 0 [(0, .ref a0), (1, .int a1), (2, .int a2)] [] h (some (.long r)) h' := by
  unfold f_M_luck_0 at hf
  refine g_aload_n (pc := 0) 0 dd_M_luck_0.1 rfl rfl ?_
  refine g_iload_n (pc := 1) 1 dd_M_luck_0.2.1 rfl rfl ?_
  obtain ⟨u2, e1, hf⟩ := bd1_e hf
  obtain ⟨x5, h3, e4, hf⟩ := bd2_e hf
  refine g_callV (pc := 2) (ci := 8) [.int a1] (site_of si_M_isLaw (by decide) (by decide)) wd_1136 wd_1138 wp_44 dd_M_luck_0.2.2.1 rfl e1 (Nat.le_of_ble_eq_true rfl) (fun z => absurd z si_na_M_isLaw) (fun z => absurd z si_na_M_isLaw) (fun z => absurd z si_na_M_isLaw) (c_M_isLaw e4) rfl ?_
  refine g_st [.int x5] rfl ?_
  refine g_ifeq (pc := 5) 18 dd_M_luck_0.2.2.2.1 (by decide) (fun c10 => ?_) (fun c10 => ?_)
  · replace hf := (if_pos c10).symm.trans hf
    refine g_lv [] rfl ?_
    exact t_M_luck_18  _ _ _  hf
  · replace hf := (if_neg c10).symm.trans hf
    refine g_iload_n (pc := 8) 2 dd_M_luck_0.2.2.2.2.1 rfl rfl ?_
    refine g_i2l (pc := 9) dd_M_luck_0.2.2.2.2.2.1 ?_
    refine g_lconst (pc := 10) (0 : Int64) dd_M_luck_0.2.2.2.2.2.2.1 (by decide) ?_
    refine g_lconst (pc := 11) (1 : Int64) dd_M_luck_0.2.2.2.2.2.2.2.1 (by decide) ?_
    obtain ⟨x8, h6, e7, hf⟩ := bd2_e hf
    refine g_callS (pc := 12) [.long a2.toInt64, .long (0 : Int64), .long (1 : Int64)] (site_of si_M_in (by decide) (by decide)) wd_1061 wd_1062 dd_M_luck_0.2.2.2.2.2.2.2.2.1 (Nat.le_of_ble_eq_true rfl) (fun z => absurd z si_na_M_in) (fun z => absurd z si_na_M_in) (fun z => absurd z si_na_M_in) (c_M_in e7) rfl ?_
    refine g_st [.int x8] rfl ?_
    refine g_ifne (pc := 15) 22 dd_M_luck_0.2.2.2.2.2.2.2.2.2.1 (by decide) (fun c9 => ?_) (fun c9 => ?_)
    · replace hf := (if_neg c9).symm.trans hf
      refine g_lconst (pc := 22) (1 : Int64) dd_M_luck_0.2.2.2.2.2.2.2.2.2.2.2.2.1 (by decide) ?_
      refine g_lstore_n (pc := 23) [(3, .long (1 : Int64)), (0, .ref a0), (1, .int a1), (2, .int a2)] dd_M_luck_0.2.2.2.2.2.2.2.2.2.2.2.2.2.1 rfl (Nat.le_of_ble_eq_true rfl) rfl ?_
      refine g_iconst (pc := 24) (0 : Int32) dd_M_luck_0.2.2.2.2.2.2.2.2.2.2.2.2.2.2.1 (by decide) ?_
      refine g_istore (pc := 25) [(5, .int (0 : Int32)), (3, .long (1 : Int64)), (0, .ref a0), (1, .int a1), (2, .int a2)] dd_M_luck_0.2.2.2.2.2.2.2.2.2.2.2.2.2.2.2.1 (Nat.le_of_ble_eq_true rfl) rfl ?_
      refine g_lv [2, 3, 4, 1, 0] rfl ?_
      exact t_M_luck_27  FU _ _ _ _ _ _ _ _  hf
    · replace hf := (if_pos c9).symm.trans hf
      refine g_lv [] rfl ?_
      exact t_M_luck_18  _ _ _  hf
def f_M_luck (a0 : Nat) (a1 : Int32) (a2 : Int32) (h : mH) : Option (Int64 × mH) := f_M_luck_0 a0 a1 a2 h
theorem c_M_luck {sc : Nat × (Nat → Int32)} {a0 : Nat} {a1 : Int32} {a2 : Int32} {h : mH} {r : Int64} {h' : mH} (hf : f_M_luck a0 a1 a2 h = some (r, h')) : MM sc y_M_luck prog_10_method_70_code 10 (some .long) 4 90 [.ref a0, .int a1, .int a2] h (some (.long r)) h' :=
  mm_of_G si_pn_M (Nat.le_of_ble_eq_true rfl) (t_M_luck_0 _ _ _ _ _ _ hf)
/-! M see (III)I -/
set_option maxRecDepth 100000 in
theorem dd_M_see_0 : (decode prog_10_method_71_code 0 = .ok (.iload_n 1, 1)) ∧ (decode prog_10_method_71_code 1 = .ok (.ifCond .ne 11, 3)) ∧ (decode prog_10_method_71_code 4 = .ok (.aload_n 0, 1)) ∧ (decode prog_10_method_71_code 5 = .ok (.iload_n 2, 1)) ∧ (decode prog_10_method_71_code 6 = .ok (.invokevirtual 213, 3)) ∧ (decode prog_10_method_71_code 9 = .ok (.goto 21, 3)) ∧ (decode prog_10_method_71_code 12 = .ok (.iload_n 1, 1)) ∧ (decode prog_10_method_71_code 13 = .ok (.iconst 1, 1)) ∧ (decode prog_10_method_71_code 14 = .ok (.if_icmp .ne 15, 3)) ∧ (decode prog_10_method_71_code 17 = .ok (.aload_n 0, 1)) ∧ (decode prog_10_method_71_code 18 = .ok (.iload_n 2, 1)) ∧ (decode prog_10_method_71_code 19 = .ok (.invokevirtual 210, 3)) ∧ (decode prog_10_method_71_code 22 = .ok (.ifCond .eq 7, 3)) ∧ (decode prog_10_method_71_code 25 = .ok (.iconst 1, 1)) ∧ (decode prog_10_method_71_code 26 = .ok (.goto 4, 3)) ∧ (decode prog_10_method_71_code 29 = .ok (.iconst 0, 1)) ∧ (decode prog_10_method_71_code 30 = .ok (.istore 4, 2)) ∧ (decode prog_10_method_71_code 32 = .ok (.iload 4, 2)) ∧ (decode prog_10_method_71_code 34 = .ok (.ifCond .eq 15, 3)) ∧ (decode prog_10_method_71_code 37 = .ok (.iload_n 3, 1)) ∧ (decode prog_10_method_71_code 38 = .ok (.i2l, 1)) ∧ (decode prog_10_method_71_code 39 = .ok (.lconst 0, 1)) ∧ (decode prog_10_method_71_code 40 = .ok (.ldc2_w 292, 3)) ∧ (decode prog_10_method_71_code 43 = .ok (.invokestatic 114, 3)) := by
  have h : List.drop 0 prog_10_method_71_code.data.toList = 0x1b :: _ := rfl
  refine ⟨zq_k_n 27 h rfl (zq_o_27 _), ?_⟩
  replace h := zq_nx1 (q := 1) h rfl
  refine ⟨zq_k_s2 154 (fun z => .ifCond .ne z) 11 h rfl (zq_o_154 _) (by decide +kernel), ?_⟩
  replace h := zq_nx3 (q := 4) h rfl
  refine ⟨zq_k_n 42 h rfl (zq_o_42 _), ?_⟩
  replace h := zq_nx1 (q := 5) h rfl
  refine ⟨zq_k_n 28 h rfl (zq_o_28 _), ?_⟩
  replace h := zq_nx1 (q := 6) h rfl
  refine ⟨zq_k_u2 182 (fun z => .invokevirtual z) 213 h rfl (zq_o_182 _) (by decide +kernel), ?_⟩
  replace h := zq_nx3 (q := 9) h rfl
  refine ⟨zq_k_s2 167 (fun z => .goto z) 21 h rfl (zq_o_167 _) (by decide +kernel), ?_⟩
  replace h := zq_nx3 (q := 12) h rfl
  refine ⟨zq_k_n 27 h rfl (zq_o_27 _), ?_⟩
  replace h := zq_nx1 (q := 13) h rfl
  refine ⟨zq_k_n 4 h rfl (zq_o_4 _), ?_⟩
  replace h := zq_nx1 (q := 14) h rfl
  refine ⟨zq_k_s2 160 (fun z => .if_icmp .ne z) 15 h rfl (zq_o_160 _) (by decide +kernel), ?_⟩
  replace h := zq_nx3 (q := 17) h rfl
  refine ⟨zq_k_n 42 h rfl (zq_o_42 _), ?_⟩
  replace h := zq_nx1 (q := 18) h rfl
  refine ⟨zq_k_n 28 h rfl (zq_o_28 _), ?_⟩
  replace h := zq_nx1 (q := 19) h rfl
  refine ⟨zq_k_u2 182 (fun z => .invokevirtual z) 210 h rfl (zq_o_182 _) (by decide +kernel), ?_⟩
  replace h := zq_nx3 (q := 22) h rfl
  refine ⟨zq_k_s2 153 (fun z => .ifCond .eq z) 7 h rfl (zq_o_153 _) (by decide +kernel), ?_⟩
  replace h := zq_nx3 (q := 25) h rfl
  refine ⟨zq_k_n 4 h rfl (zq_o_4 _), ?_⟩
  replace h := zq_nx1 (q := 26) h rfl
  refine ⟨zq_k_s2 167 (fun z => .goto z) 4 h rfl (zq_o_167 _) (by decide +kernel), ?_⟩
  replace h := zq_nx3 (q := 29) h rfl
  refine ⟨zq_k_n 3 h rfl (zq_o_3 _), ?_⟩
  replace h := zq_nx1 (q := 30) h rfl
  refine ⟨zq_k_u1 54 (fun z => .istore z) 4 h rfl (zq_o_54 _) (by decide +kernel), ?_⟩
  replace h := zq_nx2 (q := 32) h rfl
  refine ⟨zq_k_u1 21 (fun z => .iload z) 4 h rfl (zq_o_21 _) (by decide +kernel), ?_⟩
  replace h := zq_nx2 (q := 34) h rfl
  refine ⟨zq_k_s2 153 (fun z => .ifCond .eq z) 15 h rfl (zq_o_153 _) (by decide +kernel), ?_⟩
  replace h := zq_nx3 (q := 37) h rfl
  refine ⟨zq_k_n 29 h rfl (zq_o_29 _), ?_⟩
  replace h := zq_nx1 (q := 38) h rfl
  refine ⟨zq_k_n 133 h rfl (zq_o_133 _), ?_⟩
  replace h := zq_nx1 (q := 39) h rfl
  refine ⟨zq_k_n 9 h rfl (zq_o_9 _), ?_⟩
  replace h := zq_nx1 (q := 40) h rfl
  refine ⟨zq_k_u2 20 (fun z => .ldc2_w z) 292 h rfl (zq_o_20 _) (by decide +kernel), ?_⟩
  replace h := zq_nx3 (q := 43) h rfl
  exact zq_k_u2 184 (fun z => .invokestatic z) 114 h rfl (zq_o_184 _) (by decide +kernel)
set_option maxRecDepth 100000 in
theorem dd_M_see_46 : (decode prog_10_method_71_code 46 = .ok (.ifCond .ne 5, 3)) ∧ (decode prog_10_method_71_code 49 = .ok (.iconst (-1), 1)) ∧ (decode prog_10_method_71_code 50 = .ok (.ireturn, 1)) ∧ (decode prog_10_method_71_code 51 = .ok (.aload_n 0, 1)) ∧ (decode prog_10_method_71_code 52 = .ok (.getfield 7, 3)) ∧ (decode prog_10_method_71_code 55 = .ok (.bipush 41, 2)) ∧ (decode prog_10_method_71_code 57 = .ok (.iaload, 1)) ∧ (decode prog_10_method_71_code 58 = .ok (.bipush 8, 2)) ∧ (decode prog_10_method_71_code 60 = .ok (.if_icmp .ne 6, 3)) ∧ (decode prog_10_method_71_code 63 = .ok (.bipush (-3), 2)) ∧ (decode prog_10_method_71_code 65 = .ok (.ireturn, 1)) ∧ (decode prog_10_method_71_code 66 = .ok (.bipush 42, 2)) ∧ (decode prog_10_method_71_code 68 = .ok (.iconst 3, 1)) ∧ (decode prog_10_method_71_code 69 = .ok (.aload_n 0, 1)) ∧ (decode prog_10_method_71_code 70 = .ok (.getfield 7, 3)) ∧ (decode prog_10_method_71_code 73 = .ok (.bipush 41, 2)) ∧ (decode prog_10_method_71_code 75 = .ok (.iaload, 1)) ∧ (decode prog_10_method_71_code 76 = .ok (.imul, 1)) ∧ (decode prog_10_method_71_code 77 = .ok (.iadd, 1)) ∧ (decode prog_10_method_71_code 78 = .ok (.istore 5, 2)) ∧ (decode prog_10_method_71_code 80 = .ok (.aload_n 0, 1)) ∧ (decode prog_10_method_71_code 81 = .ok (.getfield 7, 3)) ∧ (decode prog_10_method_71_code 84 = .ok (.iload 5, 2)) ∧ (decode prog_10_method_71_code 86 = .ok (.iload_n 1, 1)) := by
  have h : List.drop 46 prog_10_method_71_code.data.toList = 0x9a :: _ := rfl
  refine ⟨zq_k_s2 154 (fun z => .ifCond .ne z) 5 h rfl (zq_o_154 _) (by decide +kernel), ?_⟩
  replace h := zq_nx3 (q := 49) h rfl
  refine ⟨zq_k_n 2 h rfl (zq_o_2 _), ?_⟩
  replace h := zq_nx1 (q := 50) h rfl
  refine ⟨zq_k_n 172 h rfl (zq_o_172 _), ?_⟩
  replace h := zq_nx1 (q := 51) h rfl
  refine ⟨zq_k_n 42 h rfl (zq_o_42 _), ?_⟩
  replace h := zq_nx1 (q := 52) h rfl
  refine ⟨zq_k_u2 180 (fun z => .getfield z) 7 h rfl (zq_o_180 _) (by decide +kernel), ?_⟩
  replace h := zq_nx3 (q := 55) h rfl
  refine ⟨zq_k_s1 16 (fun z => .bipush z) 41 h rfl (zq_o_16 _) (by decide +kernel), ?_⟩
  replace h := zq_nx2 (q := 57) h rfl
  refine ⟨zq_k_n 46 h rfl (zq_o_46 _), ?_⟩
  replace h := zq_nx1 (q := 58) h rfl
  refine ⟨zq_k_s1 16 (fun z => .bipush z) 8 h rfl (zq_o_16 _) (by decide +kernel), ?_⟩
  replace h := zq_nx2 (q := 60) h rfl
  refine ⟨zq_k_s2 160 (fun z => .if_icmp .ne z) 6 h rfl (zq_o_160 _) (by decide +kernel), ?_⟩
  replace h := zq_nx3 (q := 63) h rfl
  refine ⟨zq_k_s1 16 (fun z => .bipush z) (-3) h rfl (zq_o_16 _) (by decide +kernel), ?_⟩
  replace h := zq_nx2 (q := 65) h rfl
  refine ⟨zq_k_n 172 h rfl (zq_o_172 _), ?_⟩
  replace h := zq_nx1 (q := 66) h rfl
  refine ⟨zq_k_s1 16 (fun z => .bipush z) 42 h rfl (zq_o_16 _) (by decide +kernel), ?_⟩
  replace h := zq_nx2 (q := 68) h rfl
  refine ⟨zq_k_n 6 h rfl (zq_o_6 _), ?_⟩
  replace h := zq_nx1 (q := 69) h rfl
  refine ⟨zq_k_n 42 h rfl (zq_o_42 _), ?_⟩
  replace h := zq_nx1 (q := 70) h rfl
  refine ⟨zq_k_u2 180 (fun z => .getfield z) 7 h rfl (zq_o_180 _) (by decide +kernel), ?_⟩
  replace h := zq_nx3 (q := 73) h rfl
  refine ⟨zq_k_s1 16 (fun z => .bipush z) 41 h rfl (zq_o_16 _) (by decide +kernel), ?_⟩
  replace h := zq_nx2 (q := 75) h rfl
  refine ⟨zq_k_n 46 h rfl (zq_o_46 _), ?_⟩
  replace h := zq_nx1 (q := 76) h rfl
  refine ⟨zq_k_n 104 h rfl (zq_o_104 _), ?_⟩
  replace h := zq_nx1 (q := 77) h rfl
  refine ⟨zq_k_n 96 h rfl (zq_o_96 _), ?_⟩
  replace h := zq_nx1 (q := 78) h rfl
  refine ⟨zq_k_u1 54 (fun z => .istore z) 5 h rfl (zq_o_54 _) (by decide +kernel), ?_⟩
  replace h := zq_nx2 (q := 80) h rfl
  refine ⟨zq_k_n 42 h rfl (zq_o_42 _), ?_⟩
  replace h := zq_nx1 (q := 81) h rfl
  refine ⟨zq_k_u2 180 (fun z => .getfield z) 7 h rfl (zq_o_180 _) (by decide +kernel), ?_⟩
  replace h := zq_nx3 (q := 84) h rfl
  refine ⟨zq_k_u1 21 (fun z => .iload z) 5 h rfl (zq_o_21 _) (by decide +kernel), ?_⟩
  replace h := zq_nx2 (q := 86) h rfl
  exact zq_k_n 27 h rfl (zq_o_27 _)
set_option maxRecDepth 100000 in
theorem dd_M_see_87 : (decode prog_10_method_71_code 87 = .ok (.iastore, 1)) ∧ (decode prog_10_method_71_code 88 = .ok (.aload_n 0, 1)) ∧ (decode prog_10_method_71_code 89 = .ok (.getfield 7, 3)) ∧ (decode prog_10_method_71_code 92 = .ok (.iload 5, 2)) ∧ (decode prog_10_method_71_code 94 = .ok (.iconst 1, 1)) ∧ (decode prog_10_method_71_code 95 = .ok (.iadd, 1)) ∧ (decode prog_10_method_71_code 96 = .ok (.iload_n 2, 1)) ∧ (decode prog_10_method_71_code 97 = .ok (.iastore, 1)) ∧ (decode prog_10_method_71_code 98 = .ok (.aload_n 0, 1)) ∧ (decode prog_10_method_71_code 99 = .ok (.getfield 7, 3)) ∧ (decode prog_10_method_71_code 102 = .ok (.iload 5, 2)) ∧ (decode prog_10_method_71_code 104 = .ok (.iconst 2, 1)) ∧ (decode prog_10_method_71_code 105 = .ok (.iadd, 1)) ∧ (decode prog_10_method_71_code 106 = .ok (.iload_n 3, 1)) ∧ (decode prog_10_method_71_code 107 = .ok (.iastore, 1)) ∧ (decode prog_10_method_71_code 108 = .ok (.aload_n 0, 1)) ∧ (decode prog_10_method_71_code 109 = .ok (.getfield 7, 3)) ∧ (decode prog_10_method_71_code 112 = .ok (.bipush 41, 2)) ∧ (decode prog_10_method_71_code 114 = .ok (.dup2, 1)) ∧ (decode prog_10_method_71_code 115 = .ok (.iaload, 1)) ∧ (decode prog_10_method_71_code 116 = .ok (.iconst 1, 1)) ∧ (decode prog_10_method_71_code 117 = .ok (.iadd, 1)) ∧ (decode prog_10_method_71_code 118 = .ok (.iastore, 1)) ∧ (decode prog_10_method_71_code 119 = .ok (.aload_n 0, 1)) := by
  have h : List.drop 87 prog_10_method_71_code.data.toList = 0x4f :: _ := rfl
  refine ⟨zq_k_n 79 h rfl (zq_o_79 _), ?_⟩
  replace h := zq_nx1 (q := 88) h rfl
  refine ⟨zq_k_n 42 h rfl (zq_o_42 _), ?_⟩
  replace h := zq_nx1 (q := 89) h rfl
  refine ⟨zq_k_u2 180 (fun z => .getfield z) 7 h rfl (zq_o_180 _) (by decide +kernel), ?_⟩
  replace h := zq_nx3 (q := 92) h rfl
  refine ⟨zq_k_u1 21 (fun z => .iload z) 5 h rfl (zq_o_21 _) (by decide +kernel), ?_⟩
  replace h := zq_nx2 (q := 94) h rfl
  refine ⟨zq_k_n 4 h rfl (zq_o_4 _), ?_⟩
  replace h := zq_nx1 (q := 95) h rfl
  refine ⟨zq_k_n 96 h rfl (zq_o_96 _), ?_⟩
  replace h := zq_nx1 (q := 96) h rfl
  refine ⟨zq_k_n 28 h rfl (zq_o_28 _), ?_⟩
  replace h := zq_nx1 (q := 97) h rfl
  refine ⟨zq_k_n 79 h rfl (zq_o_79 _), ?_⟩
  replace h := zq_nx1 (q := 98) h rfl
  refine ⟨zq_k_n 42 h rfl (zq_o_42 _), ?_⟩
  replace h := zq_nx1 (q := 99) h rfl
  refine ⟨zq_k_u2 180 (fun z => .getfield z) 7 h rfl (zq_o_180 _) (by decide +kernel), ?_⟩
  replace h := zq_nx3 (q := 102) h rfl
  refine ⟨zq_k_u1 21 (fun z => .iload z) 5 h rfl (zq_o_21 _) (by decide +kernel), ?_⟩
  replace h := zq_nx2 (q := 104) h rfl
  refine ⟨zq_k_n 5 h rfl (zq_o_5 _), ?_⟩
  replace h := zq_nx1 (q := 105) h rfl
  refine ⟨zq_k_n 96 h rfl (zq_o_96 _), ?_⟩
  replace h := zq_nx1 (q := 106) h rfl
  refine ⟨zq_k_n 29 h rfl (zq_o_29 _), ?_⟩
  replace h := zq_nx1 (q := 107) h rfl
  refine ⟨zq_k_n 79 h rfl (zq_o_79 _), ?_⟩
  replace h := zq_nx1 (q := 108) h rfl
  refine ⟨zq_k_n 42 h rfl (zq_o_42 _), ?_⟩
  replace h := zq_nx1 (q := 109) h rfl
  refine ⟨zq_k_u2 180 (fun z => .getfield z) 7 h rfl (zq_o_180 _) (by decide +kernel), ?_⟩
  replace h := zq_nx3 (q := 112) h rfl
  refine ⟨zq_k_s1 16 (fun z => .bipush z) 41 h rfl (zq_o_16 _) (by decide +kernel), ?_⟩
  replace h := zq_nx2 (q := 114) h rfl
  refine ⟨zq_k_n 92 h rfl (zq_o_92 _), ?_⟩
  replace h := zq_nx1 (q := 115) h rfl
  refine ⟨zq_k_n 46 h rfl (zq_o_46 _), ?_⟩
  replace h := zq_nx1 (q := 116) h rfl
  refine ⟨zq_k_n 4 h rfl (zq_o_4 _), ?_⟩
  replace h := zq_nx1 (q := 117) h rfl
  refine ⟨zq_k_n 96 h rfl (zq_o_96 _), ?_⟩
  replace h := zq_nx1 (q := 118) h rfl
  refine ⟨zq_k_n 79 h rfl (zq_o_79 _), ?_⟩
  replace h := zq_nx1 (q := 119) h rfl
  exact zq_k_n 42 h rfl (zq_o_42 _)
set_option maxRecDepth 100000 in
theorem dd_M_see_120 : (decode prog_10_method_71_code 120 = .ok (.getfield 7, 3)) ∧ (decode prog_10_method_71_code 123 = .ok (.bipush 41, 2)) ∧ (decode prog_10_method_71_code 125 = .ok (.iaload, 1)) ∧ (decode prog_10_method_71_code 126 = .ok (.ireturn, 1)) := by
  have h : List.drop 120 prog_10_method_71_code.data.toList = 0xb4 :: _ := rfl
  refine ⟨zq_k_u2 180 (fun z => .getfield z) 7 h rfl (zq_o_180 _) (by decide +kernel), ?_⟩
  replace h := zq_nx3 (q := 123) h rfl
  refine ⟨zq_k_s1 16 (fun z => .bipush z) 41 h rfl (zq_o_16 _) (by decide +kernel), ?_⟩
  replace h := zq_nx2 (q := 125) h rfl
  refine ⟨zq_k_n 46 h rfl (zq_o_46 _), ?_⟩
  replace h := zq_nx1 (q := 126) h rfl
  exact zq_k_n 172 h rfl (zq_o_172 _)
def f_M_see_49   (h : mH) : Option (Int32 × mH) :=
  some (((-1) : Int32), h)
set_option maxRecDepth 20000 in
theorem t_M_see_49 {sc : Nat × (Nat → Int32)}   (h : mH) (r : Int32) (h' : mH) (hf : f_M_see_49   h = some (r, h')) : G sc y_M_see prog_10_method_71_code 6 (some .int) 2 46 49 [] [] h (some (.int r)) h' := by
  unfold f_M_see_49 at hf
  refine g_iconst (pc := 49) ((-1) : Int32) dd_M_see_46.2.1 (by decide) ?_
  obtain ⟨rfl, rfl⟩ := ret2 hf
  exact g_iret (pc := 50) rfl dd_M_see_46.2.2.1
def f_M_see_30  (b0 : Nat) (b1 : Int32) (b2 : Int32) (b3 : Int32) (s0 : Int32) (h : mH) : Option (Int32 × mH) :=
  if s0 = 0 then
    f_M_see_49  h
  else
    bd2 (f_M_in b3.toInt64 (0 : Int64) (20 : Int64) h) fun x16 h14 =>
    if x16 = 0 then
      f_M_see_49  h14
    else
      bd1 (gR h14 b0 8 0) fun x17 =>
      bd1 (aI h14 0 x17 (41 : Int32)) fun x19 =>
      if x19 = (8 : Int32) then
        some (((-3) : Int32), h14)
      else
        bd1 (gR h14 b0 8 0) fun x21 =>
        bd1 (aI h14 0 x21 (41 : Int32)) fun x23 =>
        bd1 (gR h14 b0 8 0) fun x25 =>
        bd1 (sI h14 0 x25 ((42 : Int32) + ((3 : Int32) * x23)) b1) fun h27 =>
        bd1 (gR h27 b0 8 0) fun x29 =>
        bd1 (sI h27 0 x29 (((42 : Int32) + ((3 : Int32) * x23)) + (1 : Int32)) b2) fun h31 =>
        bd1 (gR h31 b0 8 0) fun x33 =>
        bd1 (sI h31 0 x33 (((42 : Int32) + ((3 : Int32) * x23)) + (2 : Int32)) b3) fun h35 =>
        bd1 (gR h35 b0 8 0) fun x37 =>
        bd1 (aI h35 0 x37 (41 : Int32)) fun x39 =>
        bd1 (sI h35 0 x37 (41 : Int32) (x39 + (1 : Int32))) fun h41 =>
        bd1 (gR h41 b0 8 0) fun x43 =>
        bd1 (aI h41 0 x43 (41 : Int32)) fun x45 =>
        some (x45, h41)
set_option maxRecDepth 20000 in
theorem t_M_see_30 {sc : Nat × (Nat → Int32)}  (b0 : Nat) (b1 : Int32) (b2 : Int32) (b3 : Int32) (s0 : Int32) (h : mH) (r : Int32) (h' : mH) (hf : f_M_see_30  b0 b1 b2 b3 s0 h = some (r, h')) : G sc y_M_see prog_10_method_71_code 6 (some .int) 2 46 30 [(0, .ref b0), (1, .int b1), (2, .int b2), (3, .int b3)] [.int s0] h (some (.int r)) h' := by
  unfold f_M_see_30 at hf
  refine g_istore (pc := 30) [(4, .int s0), (0, .ref b0), (1, .int b1), (2, .int b2), (3, .int b3)] dd_M_see_0.2.2.2.2.2.2.2.2.2.2.2.2.2.2.2.2.1 (Nat.le_of_ble_eq_true rfl) rfl ?_
  refine g_iload (pc := 32) 0 dd_M_see_0.2.2.2.2.2.2.2.2.2.2.2.2.2.2.2.2.2.1 rfl ?_
  refine g_ifeq (pc := 34) 49 dd_M_see_0.2.2.2.2.2.2.2.2.2.2.2.2.2.2.2.2.2.2.1 (by decide) (fun c49 => ?_) (fun c49 => ?_)
  · replace hf := (if_pos c49).symm.trans hf
    refine g_lv [] rfl ?_
    exact t_M_see_49  _ _ _  hf
  · replace hf := (if_neg c49).symm.trans hf
    refine g_iload_n (pc := 37) 4 dd_M_see_0.2.2.2.2.2.2.2.2.2.2.2.2.2.2.2.2.2.2.2.1 rfl rfl ?_
    refine g_i2l (pc := 38) dd_M_see_0.2.2.2.2.2.2.2.2.2.2.2.2.2.2.2.2.2.2.2.2.1 ?_
    refine g_lconst (pc := 39) (0 : Int64) dd_M_see_0.2.2.2.2.2.2.2.2.2.2.2.2.2.2.2.2.2.2.2.2.2.1 (by decide) ?_
    refine g_ldc2 (pc := 40) (20 : Int64) dd_M_see_0.2.2.2.2.2.2.2.2.2.2.2.2.2.2.2.2.2.2.2.2.2.2.1 wd_1332 ?_
    obtain ⟨x16, h14, e15, hf⟩ := bd2_e hf
    refine g_callS (pc := 43) [.long b3.toInt64, .long (0 : Int64), .long (20 : Int64)] (site_of si_M_in (by decide) (by decide)) wd_1061 wd_1062 dd_M_see_0.2.2.2.2.2.2.2.2.2.2.2.2.2.2.2.2.2.2.2.2.2.2.2 (Nat.le_of_ble_eq_true rfl) (fun z => absurd z si_na_M_in) (fun z => absurd z si_na_M_in) (fun z => absurd z si_na_M_in) (c_M_in e15) rfl ?_
    refine g_st [.int x16] rfl ?_
    refine g_ifne (pc := 46) 51 dd_M_see_46.1 (by decide) (fun c48 => ?_) (fun c48 => ?_)
    · replace hf := (if_neg c48).symm.trans hf
      refine g_aload_n (pc := 51) 1 dd_M_see_46.2.2.2.1 rfl rfl ?_
      obtain ⟨x17, e18, hf⟩ := bd1_e hf
      refine g_get (pc := 52) (ci := 8) (kk := 0) dd_M_see_46.2.2.2.2.1 rfl in_M (by decide) wd_938 (gR_spec e18) ?_
      refine g_bipush (pc := 55) (41 : Int32) dd_M_see_46.2.2.2.2.2.1 (by decide) ?_
      obtain ⟨x19, e20, hf⟩ := bd1_e hf
      refine g_iald (pc := 57) dd_M_see_46.2.2.2.2.2.2.1 e20 ?_
      refine g_bipush (pc := 58) (8 : Int32) dd_M_see_46.2.2.2.2.2.2.2.1 (by decide) ?_
      refine g_icmpne (pc := 60) 66 dd_M_see_46.2.2.2.2.2.2.2.2.1 (by decide) (fun c47 => ?_) (fun c47 => ?_)
      · replace hf := (if_neg c47).symm.trans hf
        refine g_bipush (pc := 66) (42 : Int32) dd_M_see_46.2.2.2.2.2.2.2.2.2.2.2.1 (by decide) ?_
        refine g_iconst (pc := 68) (3 : Int32) dd_M_see_46.2.2.2.2.2.2.2.2.2.2.2.2.1 (by decide) ?_
        refine g_aload_n (pc := 69) 1 dd_M_see_46.2.2.2.2.2.2.2.2.2.2.2.2.2.1 rfl rfl ?_
        obtain ⟨x21, e22, hf⟩ := bd1_e hf
        refine g_get (pc := 70) (ci := 8) (kk := 0) dd_M_see_46.2.2.2.2.2.2.2.2.2.2.2.2.2.2.1 rfl in_M (by decide) wd_938 (gR_spec e22) ?_
        refine g_bipush (pc := 73) (41 : Int32) dd_M_see_46.2.2.2.2.2.2.2.2.2.2.2.2.2.2.2.1 (by decide) ?_
        obtain ⟨x23, e24, hf⟩ := bd1_e hf
        refine g_iald (pc := 75) dd_M_see_46.2.2.2.2.2.2.2.2.2.2.2.2.2.2.2.2.1 e24 ?_
        refine g_imul (pc := 76) dd_M_see_46.2.2.2.2.2.2.2.2.2.2.2.2.2.2.2.2.2.1 ?_
        refine g_iadd (pc := 77) dd_M_see_46.2.2.2.2.2.2.2.2.2.2.2.2.2.2.2.2.2.2.1 ?_
        refine g_istore (pc := 78) [(5, .int ((42 : Int32) + ((3 : Int32) * x23))), (4, .int s0), (0, .ref b0), (1, .int b1), (2, .int b2), (3, .int b3)] dd_M_see_46.2.2.2.2.2.2.2.2.2.2.2.2.2.2.2.2.2.2.2.1 (Nat.le_of_ble_eq_true rfl) rfl ?_
        refine g_aload_n (pc := 80) 2 dd_M_see_46.2.2.2.2.2.2.2.2.2.2.2.2.2.2.2.2.2.2.2.2.1 rfl rfl ?_
        obtain ⟨x25, e26, hf⟩ := bd1_e hf
        refine g_get (pc := 81) (ci := 8) (kk := 0) dd_M_see_46.2.2.2.2.2.2.2.2.2.2.2.2.2.2.2.2.2.2.2.2.2.1 rfl in_M (by decide) wd_938 (gR_spec e26) ?_
        refine g_iload (pc := 84) 0 dd_M_see_46.2.2.2.2.2.2.2.2.2.2.2.2.2.2.2.2.2.2.2.2.2.2.1 rfl ?_
        refine g_iload_n (pc := 86) 3 dd_M_see_46.2.2.2.2.2.2.2.2.2.2.2.2.2.2.2.2.2.2.2.2.2.2.2 rfl rfl ?_
        obtain ⟨h27, e28, hf⟩ := bd1_e hf
        refine g_iast (pc := 87) dd_M_see_87.1 e28 ?_
        refine g_aload_n (pc := 88) 2 dd_M_see_87.2.1 rfl rfl ?_
        obtain ⟨x29, e30, hf⟩ := bd1_e hf
        refine g_get (pc := 89) (ci := 8) (kk := 0) dd_M_see_87.2.2.1 rfl in_M (by decide) wd_938 (gR_spec e30) ?_
        refine g_iload (pc := 92) 0 dd_M_see_87.2.2.2.1 rfl ?_
        refine g_iconst (pc := 94) (1 : Int32) dd_M_see_87.2.2.2.2.1 (by decide) ?_
        refine g_iadd (pc := 95) dd_M_see_87.2.2.2.2.2.1 ?_
        refine g_iload_n (pc := 96) 4 dd_M_see_87.2.2.2.2.2.2.1 rfl rfl ?_
        obtain ⟨h31, e32, hf⟩ := bd1_e hf
        refine g_iast (pc := 97) dd_M_see_87.2.2.2.2.2.2.2.1 e32 ?_
        refine g_aload_n (pc := 98) 2 dd_M_see_87.2.2.2.2.2.2.2.2.1 rfl rfl ?_
        obtain ⟨x33, e34, hf⟩ := bd1_e hf
        refine g_get (pc := 99) (ci := 8) (kk := 0) dd_M_see_87.2.2.2.2.2.2.2.2.2.1 rfl in_M (by decide) wd_938 (gR_spec e34) ?_
        refine g_iload (pc := 102) 0 dd_M_see_87.2.2.2.2.2.2.2.2.2.2.1 rfl ?_
        refine g_iconst (pc := 104) (2 : Int32) dd_M_see_87.2.2.2.2.2.2.2.2.2.2.2.1 (by decide) ?_
        refine g_iadd (pc := 105) dd_M_see_87.2.2.2.2.2.2.2.2.2.2.2.2.1 ?_
        refine g_iload_n (pc := 106) 5 dd_M_see_87.2.2.2.2.2.2.2.2.2.2.2.2.2.1 rfl rfl ?_
        obtain ⟨h35, e36, hf⟩ := bd1_e hf
        refine g_iast (pc := 107) dd_M_see_87.2.2.2.2.2.2.2.2.2.2.2.2.2.2.1 e36 ?_
        refine g_aload_n (pc := 108) 2 dd_M_see_87.2.2.2.2.2.2.2.2.2.2.2.2.2.2.2.1 rfl rfl ?_
        obtain ⟨x37, e38, hf⟩ := bd1_e hf
        refine g_get (pc := 109) (ci := 8) (kk := 0) dd_M_see_87.2.2.2.2.2.2.2.2.2.2.2.2.2.2.2.2.1 rfl in_M (by decide) wd_938 (gR_spec e38) ?_
        refine g_bipush (pc := 112) (41 : Int32) dd_M_see_87.2.2.2.2.2.2.2.2.2.2.2.2.2.2.2.2.2.1 (by decide) ?_
        refine g_dup2 (pc := 114) dd_M_see_87.2.2.2.2.2.2.2.2.2.2.2.2.2.2.2.2.2.2.1 rfl rfl ?_
        obtain ⟨x39, e40, hf⟩ := bd1_e hf
        refine g_iald (pc := 115) dd_M_see_87.2.2.2.2.2.2.2.2.2.2.2.2.2.2.2.2.2.2.2.1 e40 ?_
        refine g_iconst (pc := 116) (1 : Int32) dd_M_see_87.2.2.2.2.2.2.2.2.2.2.2.2.2.2.2.2.2.2.2.2.1 (by decide) ?_
        refine g_iadd (pc := 117) dd_M_see_87.2.2.2.2.2.2.2.2.2.2.2.2.2.2.2.2.2.2.2.2.2.1 ?_
        obtain ⟨h41, e42, hf⟩ := bd1_e hf
        refine g_iast (pc := 118) dd_M_see_87.2.2.2.2.2.2.2.2.2.2.2.2.2.2.2.2.2.2.2.2.2.2.1 e42 ?_
        refine g_aload_n (pc := 119) 2 dd_M_see_87.2.2.2.2.2.2.2.2.2.2.2.2.2.2.2.2.2.2.2.2.2.2.2 rfl rfl ?_
        obtain ⟨x43, e44, hf⟩ := bd1_e hf
        refine g_get (pc := 120) (ci := 8) (kk := 0) dd_M_see_120.1 rfl in_M (by decide) wd_938 (gR_spec e44) ?_
        refine g_bipush (pc := 123) (41 : Int32) dd_M_see_120.2.1 (by decide) ?_
        obtain ⟨x45, e46, hf⟩ := bd1_e hf
        refine g_iald (pc := 125) dd_M_see_120.2.2.1 e46 ?_
        obtain ⟨rfl, rfl⟩ := ret2 hf
        exact g_iret (pc := 126) rfl dd_M_see_120.2.2.2
      · replace hf := (if_pos c47).symm.trans hf
        refine g_bipush (pc := 63) ((-3) : Int32) dd_M_see_46.2.2.2.2.2.2.2.2.2.1 (by decide) ?_
        obtain ⟨rfl, rfl⟩ := ret2 hf
        exact g_iret (pc := 65) rfl dd_M_see_46.2.2.2.2.2.2.2.2.2.2.1
    · replace hf := (if_pos c48).symm.trans hf
      refine g_lv [] rfl ?_
      exact t_M_see_49  _ _ _  hf
def f_M_see_29  (b0 : Nat) (b1 : Int32) (b2 : Int32) (b3 : Int32) (h : mH) : Option (Int32 × mH) :=
  f_M_see_30  b0 b1 b2 b3 (0 : Int32) h
set_option maxRecDepth 20000 in
theorem t_M_see_29 {sc : Nat × (Nat → Int32)}  (b0 : Nat) (b1 : Int32) (b2 : Int32) (b3 : Int32) (h : mH) (r : Int32) (h' : mH) (hf : f_M_see_29  b0 b1 b2 b3 h = some (r, h')) : G sc y_M_see prog_10_method_71_code 6 (some .int) 2 46 29 [(0, .ref b0), (1, .int b1), (2, .int b2), (3, .int b3)] [] h (some (.int r)) h' := by
  unfold f_M_see_29 at hf
  refine g_iconst (pc := 29) (0 : Int32) dd_M_see_0.2.2.2.2.2.2.2.2.2.2.2.2.2.2.2.1 (by decide) ?_
  refine g_lv [0, 1, 2, 3] rfl ?_
  exact t_M_see_30  _ _ _ _ _ _ _ _  hf
def f_M_see_0  (a0 : Nat) (a1 : Int32) (a2 : Int32) (a3 : Int32) (h : mH) : Option (Int32 × mH) :=
  if a1 = 0 then
    bd1 (kC h a0 8) fun _ =>
    bd2 (f_M_isOne a0 a2 h) fun x12 h10 =>
    f_M_see_30  a0 a1 a2 a3 x12 h10
  else
    if a1 = (1 : Int32) then
      bd1 (kC h a0 8) fun _ =>
      bd2 (f_M_isLaw a0 a2 h) fun x5 h3 =>
      if x5 = 0 then
        f_M_see_29  a0 a1 a2 a3 h3
      else
        f_M_see_30  a0 a1 a2 a3 (1 : Int32) h3
    else
      f_M_see_29  a0 a1 a2 a3 h
set_option maxRecDepth 20000 in
theorem t_M_see_0 {sc : Nat × (Nat → Int32)}  (a0 : Nat) (a1 : Int32) (a2 : Int32) (a3 : Int32) (h : mH) (r : Int32) (h' : mH) (hf : f_M_see_0  a0 a1 a2 a3 h = some (r, h')) : G sc y_M_see prog_10_method_71_code 6 (some .int) 2 46 0 [(0, .ref a0), (1, .int a1), (2, .int a2), (3, .int a3)] [] h (some (.int r)) h' := by
  unfold f_M_see_0 at hf
  refine g_iload_n (pc := 0) 1 dd_M_see_0.1 rfl rfl ?_
  refine g_ifne (pc := 1) 12 dd_M_see_0.2.1 (by decide) (fun c13 => ?_) (fun c13 => ?_)
  · replace hf := (if_neg c13).symm.trans hf
    refine g_iload_n (pc := 12) 1 dd_M_see_0.2.2.2.2.2.2.1 rfl rfl ?_
    refine g_iconst (pc := 13) (1 : Int32) dd_M_see_0.2.2.2.2.2.2.2.1 (by decide) ?_
    refine g_icmpne (pc := 14) 29 dd_M_see_0.2.2.2.2.2.2.2.2.1 (by decide) (fun c7 => ?_) (fun c7 => ?_)
    · replace hf := (if_neg c7).symm.trans hf
      refine g_lv [0, 1, 2, 3] rfl ?_
      exact t_M_see_29  _ _ _ _ _ _ _  hf
    · replace hf := (if_pos c7).symm.trans hf
      refine g_aload_n (pc := 17) 0 dd_M_see_0.2.2.2.2.2.2.2.2.2.1 rfl rfl ?_
      refine g_iload_n (pc := 18) 2 dd_M_see_0.2.2.2.2.2.2.2.2.2.2.1 rfl rfl ?_
      obtain ⟨u2, e1, hf⟩ := bd1_e hf
      obtain ⟨x5, h3, e4, hf⟩ := bd2_e hf
      refine g_callV (pc := 19) (ci := 8) [.int a2] (site_of si_M_isLaw (by decide) (by decide)) wd_1136 wd_1138 wp_44 dd_M_see_0.2.2.2.2.2.2.2.2.2.2.2.1 rfl e1 (Nat.le_of_ble_eq_true rfl) (fun z => absurd z si_na_M_isLaw) (fun z => absurd z si_na_M_isLaw) (fun z => absurd z si_na_M_isLaw) (c_M_isLaw e4) rfl ?_
      refine g_st [.int x5] rfl ?_
      refine g_ifeq (pc := 22) 29 dd_M_see_0.2.2.2.2.2.2.2.2.2.2.2.2.1 (by decide) (fun c6 => ?_) (fun c6 => ?_)
      · replace hf := (if_pos c6).symm.trans hf
        refine g_lv [0, 1, 2, 3] rfl ?_
        exact t_M_see_29  _ _ _ _ _ _ _  hf
      · replace hf := (if_neg c6).symm.trans hf
        refine g_iconst (pc := 25) (1 : Int32) dd_M_see_0.2.2.2.2.2.2.2.2.2.2.2.2.2.1 (by decide) ?_
        refine g_goto (pc := 26) 30 dd_M_see_0.2.2.2.2.2.2.2.2.2.2.2.2.2.2.1 (by decide) ?_
        refine g_lv [0, 1, 2, 3] rfl ?_
        exact t_M_see_30  _ _ _ _ _ _ _ _  hf
  · replace hf := (if_pos c13).symm.trans hf
    refine g_aload_n (pc := 4) 0 dd_M_see_0.2.2.1 rfl rfl ?_
    refine g_iload_n (pc := 5) 2 dd_M_see_0.2.2.2.1 rfl rfl ?_
    obtain ⟨u9, e8, hf⟩ := bd1_e hf
    obtain ⟨x12, h10, e11, hf⟩ := bd2_e hf
    refine g_callV (pc := 6) (ci := 8) [.int a2] (site_of si_M_isOne (by decide) (by decide)) wd_1160 wd_1162 wp_49 dd_M_see_0.2.2.2.2.1 rfl e8 (Nat.le_of_ble_eq_true rfl) (fun z => absurd z si_na_M_isOne) (fun z => absurd z si_na_M_isOne) (fun z => absurd z si_na_M_isOne) (c_M_isOne e11) rfl ?_
    refine g_st [.int x12] rfl ?_
    refine g_goto (pc := 9) 30 dd_M_see_0.2.2.2.2.2.1 (by decide) ?_
    refine g_lv [0, 1, 2, 3] rfl ?_
    exact t_M_see_30  _ _ _ _ _ _ _ _  hf
def f_M_see (a0 : Nat) (a1 : Int32) (a2 : Int32) (a3 : Int32) (h : mH) : Option (Int32 × mH) := f_M_see_0 a0 a1 a2 a3 h
theorem c_M_see {sc : Nat × (Nat → Int32)} {a0 : Nat} {a1 : Int32} {a2 : Int32} {a3 : Int32} {h : mH} {r : Int32} {h' : mH} (hf : f_M_see a0 a1 a2 a3 h = some (r, h')) : MM sc y_M_see prog_10_method_71_code 6 (some .int) 2 46 [.ref a0, .int a1, .int a2, .int a3] h (some (.int r)) h' :=
  mm_of_G si_pn_M (Nat.le_of_ble_eq_true rfl) (t_M_see_0 _ _ _ _ _ _ _ hf)
/-! M forget (I)I -/
set_option maxRecDepth 100000 in
theorem dd_M_forget_0 : (decode prog_10_method_72_code 0 = .ok (.iload_n 1, 1)) ∧ (decode prog_10_method_72_code 1 = .ok (.i2l, 1)) ∧ (decode prog_10_method_72_code 2 = .ok (.lconst 0, 1)) ∧ (decode prog_10_method_72_code 3 = .ok (.aload_n 0, 1)) ∧ (decode prog_10_method_72_code 4 = .ok (.getfield 7, 3)) ∧ (decode prog_10_method_72_code 7 = .ok (.bipush 41, 2)) ∧ (decode prog_10_method_72_code 9 = .ok (.iaload, 1)) ∧ (decode prog_10_method_72_code 10 = .ok (.i2l, 1)) ∧ (decode prog_10_method_72_code 11 = .ok (.invokestatic 114, 3)) ∧ (decode prog_10_method_72_code 14 = .ok (.ifCond .eq 13, 3)) ∧ (decode prog_10_method_72_code 17 = .ok (.aload_n 0, 1)) ∧ (decode prog_10_method_72_code 18 = .ok (.bipush 41, 2)) ∧ (decode prog_10_method_72_code 20 = .ok (.iload_n 1, 1)) ∧ (decode prog_10_method_72_code 21 = .ok (.invokevirtual 226, 3)) ∧ (decode prog_10_method_72_code 24 = .ok (.goto 4, 3)) ∧ (decode prog_10_method_72_code 27 = .ok (.iconst (-1), 1)) ∧ (decode prog_10_method_72_code 28 = .ok (.ireturn, 1)) := by
  have h : List.drop 0 prog_10_method_72_code.data.toList = 0x1b :: _ := rfl
  refine ⟨zq_k_n 27 h rfl (zq_o_27 _), ?_⟩
  replace h := zq_nx1 (q := 1) h rfl
  refine ⟨zq_k_n 133 h rfl (zq_o_133 _), ?_⟩
  replace h := zq_nx1 (q := 2) h rfl
  refine ⟨zq_k_n 9 h rfl (zq_o_9 _), ?_⟩
  replace h := zq_nx1 (q := 3) h rfl
  refine ⟨zq_k_n 42 h rfl (zq_o_42 _), ?_⟩
  replace h := zq_nx1 (q := 4) h rfl
  refine ⟨zq_k_u2 180 (fun z => .getfield z) 7 h rfl (zq_o_180 _) (by decide +kernel), ?_⟩
  replace h := zq_nx3 (q := 7) h rfl
  refine ⟨zq_k_s1 16 (fun z => .bipush z) 41 h rfl (zq_o_16 _) (by decide +kernel), ?_⟩
  replace h := zq_nx2 (q := 9) h rfl
  refine ⟨zq_k_n 46 h rfl (zq_o_46 _), ?_⟩
  replace h := zq_nx1 (q := 10) h rfl
  refine ⟨zq_k_n 133 h rfl (zq_o_133 _), ?_⟩
  replace h := zq_nx1 (q := 11) h rfl
  refine ⟨zq_k_u2 184 (fun z => .invokestatic z) 114 h rfl (zq_o_184 _) (by decide +kernel), ?_⟩
  replace h := zq_nx3 (q := 14) h rfl
  refine ⟨zq_k_s2 153 (fun z => .ifCond .eq z) 13 h rfl (zq_o_153 _) (by decide +kernel), ?_⟩
  replace h := zq_nx3 (q := 17) h rfl
  refine ⟨zq_k_n 42 h rfl (zq_o_42 _), ?_⟩
  replace h := zq_nx1 (q := 18) h rfl
  refine ⟨zq_k_s1 16 (fun z => .bipush z) 41 h rfl (zq_o_16 _) (by decide +kernel), ?_⟩
  replace h := zq_nx2 (q := 20) h rfl
  refine ⟨zq_k_n 27 h rfl (zq_o_27 _), ?_⟩
  replace h := zq_nx1 (q := 21) h rfl
  refine ⟨zq_k_u2 182 (fun z => .invokevirtual z) 226 h rfl (zq_o_182 _) (by decide +kernel), ?_⟩
  replace h := zq_nx3 (q := 24) h rfl
  refine ⟨zq_k_s2 167 (fun z => .goto z) 4 h rfl (zq_o_167 _) (by decide +kernel), ?_⟩
  replace h := zq_nx3 (q := 27) h rfl
  refine ⟨zq_k_n 2 h rfl (zq_o_2 _), ?_⟩
  replace h := zq_nx1 (q := 28) h rfl
  exact zq_k_n 172 h rfl (zq_o_172 _)
def f_M_forget_0  (a0 : Nat) (a1 : Int32) (h : mH) : Option (Int32 × mH) :=
  bd1 (gR h a0 8 0) fun x1 =>
  bd1 (aI h 0 x1 (41 : Int32)) fun x3 =>
  bd2 (f_M_in a1.toInt64 (0 : Int64) x3.toInt64 h) fun x7 h5 =>
  if x7 = 0 then
    some (((-1) : Int32), h5)
  else
    bd1 (kC h5 a0 8) fun _ =>
    bd2 (f_M_becomes a0 (41 : Int32) a1 h5) fun x12 h10 =>
    some (x12, h10)
set_option maxRecDepth 20000 in
theorem t_M_forget_0 {sc : Nat × (Nat → Int32)}  (a0 : Nat) (a1 : Int32) (h : mH) (r : Int32) (h' : mH) (hf : f_M_forget_0  a0 a1 h = some (r, h')) : G sc y_M_forget prog_10_method_72_code 2 (some .int) 1 25 0 [(0, .ref a0), (1, .int a1)] [] h (some (.int r)) h' := by
  unfold f_M_forget_0 at hf
  refine g_iload_n (pc := 0) 1 dd_M_forget_0.1 rfl rfl ?_
  refine g_i2l (pc := 1) dd_M_forget_0.2.1 ?_
  refine g_lconst (pc := 2) (0 : Int64) dd_M_forget_0.2.2.1 (by decide) ?_
  refine g_aload_n (pc := 3) 0 dd_M_forget_0.2.2.2.1 rfl rfl ?_
  obtain ⟨x1, e2, hf⟩ := bd1_e hf
  refine g_get (pc := 4) (ci := 8) (kk := 0) dd_M_forget_0.2.2.2.2.1 rfl in_M (by decide) wd_938 (gR_spec e2) ?_
  refine g_bipush (pc := 7) (41 : Int32) dd_M_forget_0.2.2.2.2.2.1 (by decide) ?_
  obtain ⟨x3, e4, hf⟩ := bd1_e hf
  refine g_iald (pc := 9) dd_M_forget_0.2.2.2.2.2.2.1 e4 ?_
  refine g_i2l (pc := 10) dd_M_forget_0.2.2.2.2.2.2.2.1 ?_
  obtain ⟨x7, h5, e6, hf⟩ := bd2_e hf
  refine g_callS (pc := 11) [.long a1.toInt64, .long (0 : Int64), .long x3.toInt64] (site_of si_M_in (by decide) (by decide)) wd_1061 wd_1062 dd_M_forget_0.2.2.2.2.2.2.2.2.1 (Nat.le_of_ble_eq_true rfl) (fun z => absurd z si_na_M_in) (fun z => absurd z si_na_M_in) (fun z => absurd z si_na_M_in) (c_M_in e6) rfl ?_
  refine g_st [.int x7] rfl ?_
  refine g_ifeq (pc := 14) 27 dd_M_forget_0.2.2.2.2.2.2.2.2.2.1 (by decide) (fun c13 => ?_) (fun c13 => ?_)
  · replace hf := (if_pos c13).symm.trans hf
    refine g_iconst (pc := 27) ((-1) : Int32) dd_M_forget_0.2.2.2.2.2.2.2.2.2.2.2.2.2.2.2.1 (by decide) ?_
    obtain ⟨rfl, rfl⟩ := ret2 hf
    exact g_iret (pc := 28) rfl dd_M_forget_0.2.2.2.2.2.2.2.2.2.2.2.2.2.2.2.2
  · replace hf := (if_neg c13).symm.trans hf
    refine g_aload_n (pc := 17) 0 dd_M_forget_0.2.2.2.2.2.2.2.2.2.2.1 rfl rfl ?_
    refine g_bipush (pc := 18) (41 : Int32) dd_M_forget_0.2.2.2.2.2.2.2.2.2.2.2.1 (by decide) ?_
    refine g_iload_n (pc := 20) 1 dd_M_forget_0.2.2.2.2.2.2.2.2.2.2.2.2.1 rfl rfl ?_
    obtain ⟨u9, e8, hf⟩ := bd1_e hf
    obtain ⟨x12, h10, e11, hf⟩ := bd2_e hf
    refine g_callV (pc := 21) (ci := 8) [.int (41 : Int32), .int a1] (site_of si_M_becomes (by decide) (by decide)) wd_1192 wd_1194 wp_54 dd_M_forget_0.2.2.2.2.2.2.2.2.2.2.2.2.2.1 rfl e8 (Nat.le_of_ble_eq_true rfl) (fun z => absurd z si_na_M_becomes) (fun z => absurd z si_na_M_becomes) (fun z => absurd z si_na_M_becomes) (c_M_becomes e11) rfl ?_
    refine g_st [.int x12] rfl ?_
    refine g_goto (pc := 24) 28 dd_M_forget_0.2.2.2.2.2.2.2.2.2.2.2.2.2.2.1 (by decide) ?_
    obtain ⟨rfl, rfl⟩ := ret2 hf
    exact g_iret (pc := 28) rfl dd_M_forget_0.2.2.2.2.2.2.2.2.2.2.2.2.2.2.2.2
def f_M_forget (a0 : Nat) (a1 : Int32) (h : mH) : Option (Int32 × mH) := f_M_forget_0 a0 a1 h
theorem c_M_forget {sc : Nat × (Nat → Int32)} {a0 : Nat} {a1 : Int32} {h : mH} {r : Int32} {h' : mH} (hf : f_M_forget a0 a1 h = some (r, h')) : MM sc y_M_forget prog_10_method_72_code 2 (some .int) 1 25 [.ref a0, .int a1] h (some (.int r)) h' :=
  mm_of_G si_pn_M (Nat.le_of_ble_eq_true rfl) (t_M_forget_0 _ _ _ _ _ hf)
/-! M mostOf (II)I -/
set_option maxRecDepth 100000 in
theorem dd_M_mostOf_0 : (decode prog_10_method_74_code 0 = .ok (.iload_n 1, 1)) ∧ (decode prog_10_method_74_code 1 = .ok (.aload_n 0, 1)) ∧ (decode prog_10_method_74_code 2 = .ok (.getfield 109, 3)) ∧ (decode prog_10_method_74_code 5 = .ok (.if_icmp .ge 28, 3)) ∧ (decode prog_10_method_74_code 8 = .ok (.aload_n 0, 1)) ∧ (decode prog_10_method_74_code 9 = .ok (.getfield 7, 3)) ∧ (decode prog_10_method_74_code 12 = .ok (.bipush 18, 2)) ∧ (decode prog_10_method_74_code 14 = .ok (.iload_n 1, 1)) ∧ (decode prog_10_method_74_code 15 = .ok (.iadd, 1)) ∧ (decode prog_10_method_74_code 16 = .ok (.iaload, 1)) ∧ (decode prog_10_method_74_code 17 = .ok (.iload_n 2, 1)) ∧ (decode prog_10_method_74_code 18 = .ok (.ishr, 1)) ∧ (decode prog_10_method_74_code 19 = .ok (.iconst 1, 1)) ∧ (decode prog_10_method_74_code 20 = .ok (.iand, 1)) ∧ (decode prog_10_method_74_code 21 = .ok (.ifCond .ne 12, 3)) ∧ (decode prog_10_method_74_code 24 = .ok (.aload_n 0, 1)) ∧ (decode prog_10_method_74_code 25 = .ok (.getfield 17, 3)) ∧ (decode prog_10_method_74_code 28 = .ok (.iload_n 2, 1)) ∧ (decode prog_10_method_74_code 29 = .ok (.iaload, 1)) ∧ (decode prog_10_method_74_code 30 = .ok (.goto 4, 3)) ∧ (decode prog_10_method_74_code 33 = .ok (.iconst 0, 1)) ∧ (decode prog_10_method_74_code 34 = .ok (.ireturn, 1)) := by
  have h : List.drop 0 prog_10_method_74_code.data.toList = 0x1b :: _ := rfl
  refine ⟨zq_k_n 27 h rfl (zq_o_27 _), ?_⟩
  replace h := zq_nx1 (q := 1) h rfl
  refine ⟨zq_k_n 42 h rfl (zq_o_42 _), ?_⟩
  replace h := zq_nx1 (q := 2) h rfl
  refine ⟨zq_k_u2 180 (fun z => .getfield z) 109 h rfl (zq_o_180 _) (by decide +kernel), ?_⟩
  replace h := zq_nx3 (q := 5) h rfl
  refine ⟨zq_k_s2 162 (fun z => .if_icmp .ge z) 28 h rfl (zq_o_162 _) (by decide +kernel), ?_⟩
  replace h := zq_nx3 (q := 8) h rfl
  refine ⟨zq_k_n 42 h rfl (zq_o_42 _), ?_⟩
  replace h := zq_nx1 (q := 9) h rfl
  refine ⟨zq_k_u2 180 (fun z => .getfield z) 7 h rfl (zq_o_180 _) (by decide +kernel), ?_⟩
  replace h := zq_nx3 (q := 12) h rfl
  refine ⟨zq_k_s1 16 (fun z => .bipush z) 18 h rfl (zq_o_16 _) (by decide +kernel), ?_⟩
  replace h := zq_nx2 (q := 14) h rfl
  refine ⟨zq_k_n 27 h rfl (zq_o_27 _), ?_⟩
  replace h := zq_nx1 (q := 15) h rfl
  refine ⟨zq_k_n 96 h rfl (zq_o_96 _), ?_⟩
  replace h := zq_nx1 (q := 16) h rfl
  refine ⟨zq_k_n 46 h rfl (zq_o_46 _), ?_⟩
  replace h := zq_nx1 (q := 17) h rfl
  refine ⟨zq_k_n 28 h rfl (zq_o_28 _), ?_⟩
  replace h := zq_nx1 (q := 18) h rfl
  refine ⟨zq_k_n 122 h rfl (zq_o_122 _), ?_⟩
  replace h := zq_nx1 (q := 19) h rfl
  refine ⟨zq_k_n 4 h rfl (zq_o_4 _), ?_⟩
  replace h := zq_nx1 (q := 20) h rfl
  refine ⟨zq_k_n 126 h rfl (zq_o_126 _), ?_⟩
  replace h := zq_nx1 (q := 21) h rfl
  refine ⟨zq_k_s2 154 (fun z => .ifCond .ne z) 12 h rfl (zq_o_154 _) (by decide +kernel), ?_⟩
  replace h := zq_nx3 (q := 24) h rfl
  refine ⟨zq_k_n 42 h rfl (zq_o_42 _), ?_⟩
  replace h := zq_nx1 (q := 25) h rfl
  refine ⟨zq_k_u2 180 (fun z => .getfield z) 17 h rfl (zq_o_180 _) (by decide +kernel), ?_⟩
  replace h := zq_nx3 (q := 28) h rfl
  refine ⟨zq_k_n 28 h rfl (zq_o_28 _), ?_⟩
  replace h := zq_nx1 (q := 29) h rfl
  refine ⟨zq_k_n 46 h rfl (zq_o_46 _), ?_⟩
  replace h := zq_nx1 (q := 30) h rfl
  refine ⟨zq_k_s2 167 (fun z => .goto z) 4 h rfl (zq_o_167 _) (by decide +kernel), ?_⟩
  replace h := zq_nx3 (q := 33) h rfl
  refine ⟨zq_k_n 3 h rfl (zq_o_3 _), ?_⟩
  replace h := zq_nx1 (q := 34) h rfl
  exact zq_k_n 172 h rfl (zq_o_172 _)
def f_M_mostOf_33   (h : mH) : Option (Int32 × mH) :=
  some ((0 : Int32), h)
set_option maxRecDepth 20000 in
theorem t_M_mostOf_33 {sc : Nat × (Nat → Int32)}   (h : mH) (r : Int32) (h' : mH) (hf : f_M_mostOf_33   h = some (r, h')) : G sc y_M_mostOf prog_10_method_74_code 3 (some .int) 0 0 33 [] [] h (some (.int r)) h' := by
  unfold f_M_mostOf_33 at hf
  refine g_iconst (pc := 33) (0 : Int32) dd_M_mostOf_0.2.2.2.2.2.2.2.2.2.2.2.2.2.2.2.2.2.2.2.2.1 (by decide) ?_
  obtain ⟨rfl, rfl⟩ := ret2 hf
  exact g_iret (pc := 34) rfl dd_M_mostOf_0.2.2.2.2.2.2.2.2.2.2.2.2.2.2.2.2.2.2.2.2.2
def f_M_mostOf_0  (a0 : Nat) (a1 : Int32) (a2 : Int32) (h : mH) : Option (Int32 × mH) :=
  bd1 (gI h a0 8 3) fun x1 =>
  if x1 ≤ a1 then
    f_M_mostOf_33  h
  else
    bd1 (gR h a0 8 0) fun x3 =>
    bd1 (aI h 0 x3 ((18 : Int32) + a1)) fun x5 =>
    if ((x5 >>> (a2 &&& 31)) &&& (1 : Int32)) = 0 then
      bd1 (gR h a0 8 4) fun x7 =>
      bd1 (aI h 0 x7 a2) fun x9 =>
      some (x9, h)
    else
      f_M_mostOf_33  h
set_option maxRecDepth 20000 in
theorem t_M_mostOf_0 {sc : Nat × (Nat → Int32)}  (a0 : Nat) (a1 : Int32) (a2 : Int32) (h : mH) (r : Int32) (h' : mH) (hf : f_M_mostOf_0  a0 a1 a2 h = some (r, h')) : G sc y_M_mostOf prog_10_method_74_code 3 (some .int) 0 0 0 [(0, .ref a0), (1, .int a1), (2, .int a2)] [] h (some (.int r)) h' := by
  unfold f_M_mostOf_0 at hf
  refine g_iload_n (pc := 0) 1 dd_M_mostOf_0.1 rfl rfl ?_
  refine g_aload_n (pc := 1) 0 dd_M_mostOf_0.2.1 rfl rfl ?_
  obtain ⟨x1, e2, hf⟩ := bd1_e hf
  refine g_get (pc := 2) (ci := 8) (kk := 3) dd_M_mostOf_0.2.2.1 rfl in_M (by decide) wd_941 (gI_spec e2) ?_
  refine g_icmpge (pc := 5) 33 dd_M_mostOf_0.2.2.2.1 (by decide) (fun c12 => ?_) (fun c12 => ?_)
  · replace hf := (if_pos c12).symm.trans hf
    refine g_lv [] rfl ?_
    exact t_M_mostOf_33  _ _ _  hf
  · replace hf := (if_neg c12).symm.trans hf
    refine g_aload_n (pc := 8) 0 dd_M_mostOf_0.2.2.2.2.1 rfl rfl ?_
    obtain ⟨x3, e4, hf⟩ := bd1_e hf
    refine g_get (pc := 9) (ci := 8) (kk := 0) dd_M_mostOf_0.2.2.2.2.2.1 rfl in_M (by decide) wd_938 (gR_spec e4) ?_
    refine g_bipush (pc := 12) (18 : Int32) dd_M_mostOf_0.2.2.2.2.2.2.1 (by decide) ?_
    refine g_iload_n (pc := 14) 1 dd_M_mostOf_0.2.2.2.2.2.2.2.1 rfl rfl ?_
    refine g_iadd (pc := 15) dd_M_mostOf_0.2.2.2.2.2.2.2.2.1 ?_
    obtain ⟨x5, e6, hf⟩ := bd1_e hf
    refine g_iald (pc := 16) dd_M_mostOf_0.2.2.2.2.2.2.2.2.2.1 e6 ?_
    refine g_iload_n (pc := 17) 2 dd_M_mostOf_0.2.2.2.2.2.2.2.2.2.2.1 rfl rfl ?_
    refine g_ishr (pc := 18) dd_M_mostOf_0.2.2.2.2.2.2.2.2.2.2.2.1 ?_
    refine g_iconst (pc := 19) (1 : Int32) dd_M_mostOf_0.2.2.2.2.2.2.2.2.2.2.2.2.1 (by decide) ?_
    refine g_iand (pc := 20) dd_M_mostOf_0.2.2.2.2.2.2.2.2.2.2.2.2.2.1 ?_
    refine g_ifne (pc := 21) 33 dd_M_mostOf_0.2.2.2.2.2.2.2.2.2.2.2.2.2.2.1 (by decide) (fun c11 => ?_) (fun c11 => ?_)
    · replace hf := (if_neg c11).symm.trans hf
      refine g_lv [] rfl ?_
      exact t_M_mostOf_33  _ _ _  hf
    · replace hf := (if_pos c11).symm.trans hf
      refine g_aload_n (pc := 24) 0 dd_M_mostOf_0.2.2.2.2.2.2.2.2.2.2.2.2.2.2.2.1 rfl rfl ?_
      obtain ⟨x7, e8, hf⟩ := bd1_e hf
      refine g_get (pc := 25) (ci := 8) (kk := 4) dd_M_mostOf_0.2.2.2.2.2.2.2.2.2.2.2.2.2.2.2.2.1 rfl in_M (by decide) wd_942 (gR_spec e8) ?_
      refine g_iload_n (pc := 28) 2 dd_M_mostOf_0.2.2.2.2.2.2.2.2.2.2.2.2.2.2.2.2.2.1 rfl rfl ?_
      obtain ⟨x9, e10, hf⟩ := bd1_e hf
      refine g_iald (pc := 29) dd_M_mostOf_0.2.2.2.2.2.2.2.2.2.2.2.2.2.2.2.2.2.2.1 e10 ?_
      refine g_goto (pc := 30) 34 dd_M_mostOf_0.2.2.2.2.2.2.2.2.2.2.2.2.2.2.2.2.2.2.2.1 (by decide) ?_
      obtain ⟨rfl, rfl⟩ := ret2 hf
      exact g_iret (pc := 34) rfl dd_M_mostOf_0.2.2.2.2.2.2.2.2.2.2.2.2.2.2.2.2.2.2.2.2.2
def f_M_mostOf (a0 : Nat) (a1 : Int32) (a2 : Int32) (h : mH) : Option (Int32 × mH) := f_M_mostOf_0 a0 a1 a2 h
theorem c_M_mostOf {sc : Nat × (Nat → Int32)} {a0 : Nat} {a1 : Int32} {a2 : Int32} {h : mH} {r : Int32} {h' : mH} (hf : f_M_mostOf a0 a1 a2 h = some (r, h')) : MM sc y_M_mostOf prog_10_method_74_code 3 (some .int) 0 0 [.ref a0, .int a1, .int a2] h (some (.int r)) h' :=
  mm_of_G si_pn_M (Nat.le_of_ble_eq_true rfl) (t_M_mostOf_0 _ _ _ _ _ _ hf)
/-! M isSo (III)Z -/
set_option maxRecDepth 100000 in
theorem dd_M_isSo_0 : (decode prog_10_method_73_code 0 = .ok (.iconst 1, 1)) ∧ (decode prog_10_method_73_code 1 = .ok (.istore 4, 2)) ∧ (decode prog_10_method_73_code 3 = .ok (.iconst 0, 1)) ∧ (decode prog_10_method_73_code 4 = .ok (.istore 5, 2)) ∧ (decode prog_10_method_73_code 6 = .ok (.iload 5, 2)) ∧ (decode prog_10_method_73_code 8 = .ok (.aload_n 0, 1)) ∧ (decode prog_10_method_73_code 9 = .ok (.getfield 7, 3)) ∧ (decode prog_10_method_73_code 12 = .ok (.bipush 41, 2)) ∧ (decode prog_10_method_73_code 14 = .ok (.iaload, 1)) ∧ (decode prog_10_method_73_code 15 = .ok (.if_icmp .ge 67, 3)) ∧ (decode prog_10_method_73_code 18 = .ok (.bipush 42, 2)) ∧ (decode prog_10_method_73_code 20 = .ok (.iconst 3, 1)) ∧ (decode prog_10_method_73_code 21 = .ok (.iload 5, 2)) ∧ (decode prog_10_method_73_code 23 = .ok (.imul, 1)) ∧ (decode prog_10_method_73_code 24 = .ok (.iadd, 1)) ∧ (decode prog_10_method_73_code 25 = .ok (.istore 6, 2)) ∧ (decode prog_10_method_73_code 27 = .ok (.iload 4, 2)) ∧ (decode prog_10_method_73_code 29 = .ok (.ifCond .eq 44, 3)) ∧ (decode prog_10_method_73_code 32 = .ok (.aload_n 0, 1)) ∧ (decode prog_10_method_73_code 33 = .ok (.getfield 7, 3)) ∧ (decode prog_10_method_73_code 36 = .ok (.iload 6, 2)) ∧ (decode prog_10_method_73_code 38 = .ok (.iaload, 1)) ∧ (decode prog_10_method_73_code 39 = .ok (.iload_n 1, 1)) ∧ (decode prog_10_method_73_code 40 = .ok (.if_icmp .ne 29, 3)) := by
  have h : List.drop 0 prog_10_method_73_code.data.toList = 0x04 :: _ := rfl
  refine ⟨zq_k_n 4 h rfl (zq_o_4 _), ?_⟩
  replace h := zq_nx1 (q := 1) h rfl
  refine ⟨zq_k_u1 54 (fun z => .istore z) 4 h rfl (zq_o_54 _) (by decide +kernel), ?_⟩
  replace h := zq_nx2 (q := 3) h rfl
  refine ⟨zq_k_n 3 h rfl (zq_o_3 _), ?_⟩
  replace h := zq_nx1 (q := 4) h rfl
  refine ⟨zq_k_u1 54 (fun z => .istore z) 5 h rfl (zq_o_54 _) (by decide +kernel), ?_⟩
  replace h := zq_nx2 (q := 6) h rfl
  refine ⟨zq_k_u1 21 (fun z => .iload z) 5 h rfl (zq_o_21 _) (by decide +kernel), ?_⟩
  replace h := zq_nx2 (q := 8) h rfl
  refine ⟨zq_k_n 42 h rfl (zq_o_42 _), ?_⟩
  replace h := zq_nx1 (q := 9) h rfl
  refine ⟨zq_k_u2 180 (fun z => .getfield z) 7 h rfl (zq_o_180 _) (by decide +kernel), ?_⟩
  replace h := zq_nx3 (q := 12) h rfl
  refine ⟨zq_k_s1 16 (fun z => .bipush z) 41 h rfl (zq_o_16 _) (by decide +kernel), ?_⟩
  replace h := zq_nx2 (q := 14) h rfl
  refine ⟨zq_k_n 46 h rfl (zq_o_46 _), ?_⟩
  replace h := zq_nx1 (q := 15) h rfl
  refine ⟨zq_k_s2 162 (fun z => .if_icmp .ge z) 67 h rfl (zq_o_162 _) (by decide +kernel), ?_⟩
  replace h := zq_nx3 (q := 18) h rfl
  refine ⟨zq_k_s1 16 (fun z => .bipush z) 42 h rfl (zq_o_16 _) (by decide +kernel), ?_⟩
  replace h := zq_nx2 (q := 20) h rfl
  refine ⟨zq_k_n 6 h rfl (zq_o_6 _), ?_⟩
  replace h := zq_nx1 (q := 21) h rfl
  refine ⟨zq_k_u1 21 (fun z => .iload z) 5 h rfl (zq_o_21 _) (by decide +kernel), ?_⟩
  replace h := zq_nx2 (q := 23) h rfl
  refine ⟨zq_k_n 104 h rfl (zq_o_104 _), ?_⟩
  replace h := zq_nx1 (q := 24) h rfl
  refine ⟨zq_k_n 96 h rfl (zq_o_96 _), ?_⟩
  replace h := zq_nx1 (q := 25) h rfl
  refine ⟨zq_k_u1 54 (fun z => .istore z) 6 h rfl (zq_o_54 _) (by decide +kernel), ?_⟩
  replace h := zq_nx2 (q := 27) h rfl
  refine ⟨zq_k_u1 21 (fun z => .iload z) 4 h rfl (zq_o_21 _) (by decide +kernel), ?_⟩
  replace h := zq_nx2 (q := 29) h rfl
  refine ⟨zq_k_s2 153 (fun z => .ifCond .eq z) 44 h rfl (zq_o_153 _) (by decide +kernel), ?_⟩
  replace h := zq_nx3 (q := 32) h rfl
  refine ⟨zq_k_n 42 h rfl (zq_o_42 _), ?_⟩
  replace h := zq_nx1 (q := 33) h rfl
  refine ⟨zq_k_u2 180 (fun z => .getfield z) 7 h rfl (zq_o_180 _) (by decide +kernel), ?_⟩
  replace h := zq_nx3 (q := 36) h rfl
  refine ⟨zq_k_u1 21 (fun z => .iload z) 6 h rfl (zq_o_21 _) (by decide +kernel), ?_⟩
  replace h := zq_nx2 (q := 38) h rfl
  refine ⟨zq_k_n 46 h rfl (zq_o_46 _), ?_⟩
  replace h := zq_nx1 (q := 39) h rfl
  refine ⟨zq_k_n 27 h rfl (zq_o_27 _), ?_⟩
  replace h := zq_nx1 (q := 40) h rfl
  exact zq_k_s2 160 (fun z => .if_icmp .ne z) 29 h rfl (zq_o_160 _) (by decide +kernel)
set_option maxRecDepth 100000 in
theorem dd_M_isSo_43 : (decode prog_10_method_73_code 43 = .ok (.aload_n 0, 1)) ∧ (decode prog_10_method_73_code 44 = .ok (.getfield 7, 3)) ∧ (decode prog_10_method_73_code 47 = .ok (.iload 6, 2)) ∧ (decode prog_10_method_73_code 49 = .ok (.iconst 1, 1)) ∧ (decode prog_10_method_73_code 50 = .ok (.iadd, 1)) ∧ (decode prog_10_method_73_code 51 = .ok (.iaload, 1)) ∧ (decode prog_10_method_73_code 52 = .ok (.iload_n 2, 1)) ∧ (decode prog_10_method_73_code 53 = .ok (.if_icmp .ne 16, 3)) ∧ (decode prog_10_method_73_code 56 = .ok (.aload_n 0, 1)) ∧ (decode prog_10_method_73_code 57 = .ok (.getfield 7, 3)) ∧ (decode prog_10_method_73_code 60 = .ok (.iload 6, 2)) ∧ (decode prog_10_method_73_code 62 = .ok (.iconst 2, 1)) ∧ (decode prog_10_method_73_code 63 = .ok (.iadd, 1)) ∧ (decode prog_10_method_73_code 64 = .ok (.iaload, 1)) ∧ (decode prog_10_method_73_code 65 = .ok (.iload_n 3, 1)) ∧ (decode prog_10_method_73_code 66 = .ok (.if_icmp .ne 7, 3)) ∧ (decode prog_10_method_73_code 69 = .ok (.iconst 1, 1)) ∧ (decode prog_10_method_73_code 70 = .ok (.goto 4, 3)) ∧ (decode prog_10_method_73_code 73 = .ok (.iconst 0, 1)) ∧ (decode prog_10_method_73_code 74 = .ok (.istore 4, 2)) ∧ (decode prog_10_method_73_code 76 = .ok (.iinc 5 1, 3)) ∧ (decode prog_10_method_73_code 79 = .ok (.goto (-73), 3)) ∧ (decode prog_10_method_73_code 82 = .ok (.iload 4, 2)) ∧ (decode prog_10_method_73_code 84 = .ok (.ireturn, 1)) := by
  have h : List.drop 43 prog_10_method_73_code.data.toList = 0x2a :: _ := rfl
  refine ⟨zq_k_n 42 h rfl (zq_o_42 _), ?_⟩
  replace h := zq_nx1 (q := 44) h rfl
  refine ⟨zq_k_u2 180 (fun z => .getfield z) 7 h rfl (zq_o_180 _) (by decide +kernel), ?_⟩
  replace h := zq_nx3 (q := 47) h rfl
  refine ⟨zq_k_u1 21 (fun z => .iload z) 6 h rfl (zq_o_21 _) (by decide +kernel), ?_⟩
  replace h := zq_nx2 (q := 49) h rfl
  refine ⟨zq_k_n 4 h rfl (zq_o_4 _), ?_⟩
  replace h := zq_nx1 (q := 50) h rfl
  refine ⟨zq_k_n 96 h rfl (zq_o_96 _), ?_⟩
  replace h := zq_nx1 (q := 51) h rfl
  refine ⟨zq_k_n 46 h rfl (zq_o_46 _), ?_⟩
  replace h := zq_nx1 (q := 52) h rfl
  refine ⟨zq_k_n 28 h rfl (zq_o_28 _), ?_⟩
  replace h := zq_nx1 (q := 53) h rfl
  refine ⟨zq_k_s2 160 (fun z => .if_icmp .ne z) 16 h rfl (zq_o_160 _) (by decide +kernel), ?_⟩
  replace h := zq_nx3 (q := 56) h rfl
  refine ⟨zq_k_n 42 h rfl (zq_o_42 _), ?_⟩
  replace h := zq_nx1 (q := 57) h rfl
  refine ⟨zq_k_u2 180 (fun z => .getfield z) 7 h rfl (zq_o_180 _) (by decide +kernel), ?_⟩
  replace h := zq_nx3 (q := 60) h rfl
  refine ⟨zq_k_u1 21 (fun z => .iload z) 6 h rfl (zq_o_21 _) (by decide +kernel), ?_⟩
  replace h := zq_nx2 (q := 62) h rfl
  refine ⟨zq_k_n 5 h rfl (zq_o_5 _), ?_⟩
  replace h := zq_nx1 (q := 63) h rfl
  refine ⟨zq_k_n 96 h rfl (zq_o_96 _), ?_⟩
  replace h := zq_nx1 (q := 64) h rfl
  refine ⟨zq_k_n 46 h rfl (zq_o_46 _), ?_⟩
  replace h := zq_nx1 (q := 65) h rfl
  refine ⟨zq_k_n 29 h rfl (zq_o_29 _), ?_⟩
  replace h := zq_nx1 (q := 66) h rfl
  refine ⟨zq_k_s2 160 (fun z => .if_icmp .ne z) 7 h rfl (zq_o_160 _) (by decide +kernel), ?_⟩
  replace h := zq_nx3 (q := 69) h rfl
  refine ⟨zq_k_n 4 h rfl (zq_o_4 _), ?_⟩
  replace h := zq_nx1 (q := 70) h rfl
  refine ⟨zq_k_s2 167 (fun z => .goto z) 4 h rfl (zq_o_167 _) (by decide +kernel), ?_⟩
  replace h := zq_nx3 (q := 73) h rfl
  refine ⟨zq_k_n 3 h rfl (zq_o_3 _), ?_⟩
  replace h := zq_nx1 (q := 74) h rfl
  refine ⟨zq_k_u1 54 (fun z => .istore z) 4 h rfl (zq_o_54 _) (by decide +kernel), ?_⟩
  replace h := zq_nx2 (q := 76) h rfl
  refine ⟨zq_k_iinc 5 1 h rfl (zq_o_132 _) (by decide +kernel) (by decide +kernel), ?_⟩
  replace h := zq_nx3 (q := 79) h rfl
  refine ⟨zq_k_s2 167 (fun z => .goto z) (-73) h rfl (zq_o_167 _) (by decide +kernel), ?_⟩
  replace h := zq_nx3 (q := 82) h rfl
  refine ⟨zq_k_u1 21 (fun z => .iload z) 4 h rfl (zq_o_21 _) (by decide +kernel), ?_⟩
  replace h := zq_nx2 (q := 84) h rfl
  exact zq_k_n 172 h rfl (zq_o_172 _)
def f_M_isSo_74 (rec6 : Nat → Int32 → Int32 → Int32 → Int32 → Int32 → mH → Option (Int32 × mH)) (b0 : Nat) (b1 : Int32) (b2 : Int32) (b3 : Int32) (b5 : Int32) (s0 : Int32) (h : mH) : Option (Int32 × mH) :=
  rec6 b0 b1 b2 b3 s0 (b5 + (1 : Int32)) h
set_option maxRecDepth 20000 in
theorem t_M_isSo_74 {sc : Nat × (Nat → Int32)} (rec6 : Nat → Int32 → Int32 → Int32 → Int32 → Int32 → mH → Option (Int32 × mH)) (hrec6 : ∀ (b0 : Nat) (b1 : Int32) (b2 : Int32) (b3 : Int32) (b4 : Int32) (b5 : Int32) (h : mH) (r : Int32) (h' : mH), rec6 b0 b1 b2 b3 b4 b5 h = some (r, h') → G sc y_M_isSo prog_10_method_73_code 7 (some .boolean) 0 0 6 [(0, .ref b0), (1, .int b1), (2, .int b2), (3, .int b3), (4, .int b4), (5, .int b5)] [] h (some (.int r)) h') (b0 : Nat) (b1 : Int32) (b2 : Int32) (b3 : Int32) (b5 : Int32) (s0 : Int32) (h : mH) (r : Int32) (h' : mH) (hf : f_M_isSo_74 rec6 b0 b1 b2 b3 b5 s0 h = some (r, h')) : G sc y_M_isSo prog_10_method_73_code 7 (some .boolean) 0 0 74 [(0, .ref b0), (1, .int b1), (2, .int b2), (3, .int b3), (5, .int b5)] [.int s0] h (some (.int r)) h' := by
  unfold f_M_isSo_74 at hf
  refine g_istore (pc := 74) [(4, .int s0), (0, .ref b0), (1, .int b1), (2, .int b2), (3, .int b3), (5, .int b5)] dd_M_isSo_43.2.2.2.2.2.2.2.2.2.2.2.2.2.2.2.2.2.2.2.1 (Nat.le_of_ble_eq_true rfl) rfl ?_
  refine g_iinc (pc := 76) 5 (b5 + (1 : Int32)) [(5, .int (b5 + (1 : Int32))), (4, .int s0), (0, .ref b0), (1, .int b1), (2, .int b2), (3, .int b3)] dd_M_isSo_43.2.2.2.2.2.2.2.2.2.2.2.2.2.2.2.2.2.2.2.2.1 rfl rfl (Nat.le_of_ble_eq_true rfl) rfl ?_
  refine g_goto (pc := 79) 6 dd_M_isSo_43.2.2.2.2.2.2.2.2.2.2.2.2.2.2.2.2.2.2.2.2.2.1 (by decide) ?_
  refine g_lv [2, 3, 4, 5, 1, 0] rfl ?_
  exact hrec6 _ _ _ _ _ _ _ _ _  hf
def f_M_isSo_73 (rec6 : Nat → Int32 → Int32 → Int32 → Int32 → Int32 → mH → Option (Int32 × mH)) (b0 : Nat) (b1 : Int32) (b2 : Int32) (b3 : Int32) (b5 : Int32) (h : mH) : Option (Int32 × mH) :=
  f_M_isSo_74 rec6 b0 b1 b2 b3 b5 (0 : Int32) h
set_option maxRecDepth 20000 in
theorem t_M_isSo_73 {sc : Nat × (Nat → Int32)} (rec6 : Nat → Int32 → Int32 → Int32 → Int32 → Int32 → mH → Option (Int32 × mH)) (hrec6 : ∀ (b0 : Nat) (b1 : Int32) (b2 : Int32) (b3 : Int32) (b4 : Int32) (b5 : Int32) (h : mH) (r : Int32) (h' : mH), rec6 b0 b1 b2 b3 b4 b5 h = some (r, h') → G sc y_M_isSo prog_10_method_73_code 7 (some .boolean) 0 0 6 [(0, .ref b0), (1, .int b1), (2, .int b2), (3, .int b3), (4, .int b4), (5, .int b5)] [] h (some (.int r)) h') (b0 : Nat) (b1 : Int32) (b2 : Int32) (b3 : Int32) (b5 : Int32) (h : mH) (r : Int32) (h' : mH) (hf : f_M_isSo_73 rec6 b0 b1 b2 b3 b5 h = some (r, h')) : G sc y_M_isSo prog_10_method_73_code 7 (some .boolean) 0 0 73 [(0, .ref b0), (1, .int b1), (2, .int b2), (3, .int b3), (5, .int b5)] [] h (some (.int r)) h' := by
  unfold f_M_isSo_73 at hf
  refine g_iconst (pc := 73) (0 : Int32) dd_M_isSo_43.2.2.2.2.2.2.2.2.2.2.2.2.2.2.2.2.2.2.1 (by decide) ?_
  refine g_lv [0, 1, 2, 3, 4] rfl ?_
  exact t_M_isSo_74 rec6 hrec6 _ _ _ _ _ _ _ _ _  hf
def f_M_isSo_69 (rec6 : Nat → Int32 → Int32 → Int32 → Int32 → Int32 → mH → Option (Int32 × mH)) (b0 : Nat) (b1 : Int32) (b2 : Int32) (b3 : Int32) (b5 : Int32) (h : mH) : Option (Int32 × mH) :=
  f_M_isSo_74 rec6 b0 b1 b2 b3 b5 (1 : Int32) h
set_option maxRecDepth 20000 in
theorem t_M_isSo_69 {sc : Nat × (Nat → Int32)} (rec6 : Nat → Int32 → Int32 → Int32 → Int32 → Int32 → mH → Option (Int32 × mH)) (hrec6 : ∀ (b0 : Nat) (b1 : Int32) (b2 : Int32) (b3 : Int32) (b4 : Int32) (b5 : Int32) (h : mH) (r : Int32) (h' : mH), rec6 b0 b1 b2 b3 b4 b5 h = some (r, h') → G sc y_M_isSo prog_10_method_73_code 7 (some .boolean) 0 0 6 [(0, .ref b0), (1, .int b1), (2, .int b2), (3, .int b3), (4, .int b4), (5, .int b5)] [] h (some (.int r)) h') (b0 : Nat) (b1 : Int32) (b2 : Int32) (b3 : Int32) (b5 : Int32) (h : mH) (r : Int32) (h' : mH) (hf : f_M_isSo_69 rec6 b0 b1 b2 b3 b5 h = some (r, h')) : G sc y_M_isSo prog_10_method_73_code 7 (some .boolean) 0 0 69 [(0, .ref b0), (1, .int b1), (2, .int b2), (3, .int b3), (5, .int b5)] [] h (some (.int r)) h' := by
  unfold f_M_isSo_69 at hf
  refine g_iconst (pc := 69) (1 : Int32) dd_M_isSo_43.2.2.2.2.2.2.2.2.2.2.2.2.2.2.2.2.1 (by decide) ?_
  refine g_goto (pc := 70) 74 dd_M_isSo_43.2.2.2.2.2.2.2.2.2.2.2.2.2.2.2.2.2.1 (by decide) ?_
  refine g_lv [0, 1, 2, 3, 4] rfl ?_
  exact t_M_isSo_74 rec6 hrec6 _ _ _ _ _ _ _ _ _  hf
def f_M_isSo_6b (rec6 : Nat → Int32 → Int32 → Int32 → Int32 → Int32 → mH → Option (Int32 × mH)) (b0 : Nat) (b1 : Int32) (b2 : Int32) (b3 : Int32) (b4 : Int32) (b5 : Int32) (h : mH) : Option (Int32 × mH) :=
  bd1 (gR h b0 8 0) fun x1 =>
  bd1 (aI h 0 x1 (41 : Int32)) fun x3 =>
  if x3 ≤ b5 then
    if b4 = 0 ∨ b4 = 1 then some (b4, h) else none
  else
    if b4 = 0 then
      f_M_isSo_73 rec6 b0 b1 b2 b3 b5 h
    else
      bd1 (gR h b0 8 0) fun x6 =>
      bd1 (aI h 0 x6 ((42 : Int32) + ((3 : Int32) * b5))) fun x8 =>
      if x8 = b1 then
        bd1 (gR h b0 8 0) fun x10 =>
        bd1 (aI h 0 x10 (((42 : Int32) + ((3 : Int32) * b5)) + (1 : Int32))) fun x12 =>
        if x12 = b2 then
          bd1 (gR h b0 8 0) fun x14 =>
          bd1 (aI h 0 x14 (((42 : Int32) + ((3 : Int32) * b5)) + (2 : Int32))) fun x16 =>
          if x16 = b3 then
            f_M_isSo_69 rec6 b0 b1 b2 b3 b5 h
          else
            f_M_isSo_73 rec6 b0 b1 b2 b3 b5 h
        else
          f_M_isSo_69 rec6 b0 b1 b2 b3 b5 h
      else
        f_M_isSo_69 rec6 b0 b1 b2 b3 b5 h
set_option maxRecDepth 20000 in
theorem t_M_isSo_6b {sc : Nat × (Nat → Int32)} (rec6 : Nat → Int32 → Int32 → Int32 → Int32 → Int32 → mH → Option (Int32 × mH)) (hrec6 : ∀ (b0 : Nat) (b1 : Int32) (b2 : Int32) (b3 : Int32) (b4 : Int32) (b5 : Int32) (h : mH) (r : Int32) (h' : mH), rec6 b0 b1 b2 b3 b4 b5 h = some (r, h') → G sc y_M_isSo prog_10_method_73_code 7 (some .boolean) 0 0 6 [(0, .ref b0), (1, .int b1), (2, .int b2), (3, .int b3), (4, .int b4), (5, .int b5)] [] h (some (.int r)) h') (b0 : Nat) (b1 : Int32) (b2 : Int32) (b3 : Int32) (b4 : Int32) (b5 : Int32) (h : mH) (r : Int32) (h' : mH) (hf : f_M_isSo_6b rec6 b0 b1 b2 b3 b4 b5 h = some (r, h')) : G sc y_M_isSo prog_10_method_73_code 7 (some .boolean) 0 0 6 [(0, .ref b0), (1, .int b1), (2, .int b2), (3, .int b3), (4, .int b4), (5, .int b5)] [] h (some (.int r)) h' := by
  unfold f_M_isSo_6b at hf
  refine g_iload (pc := 6) 5 dd_M_isSo_0.2.2.2.2.1 rfl ?_
  refine g_aload_n (pc := 8) 0 dd_M_isSo_0.2.2.2.2.2.1 rfl rfl ?_
  obtain ⟨x1, e2, hf⟩ := bd1_e hf
  refine g_get (pc := 9) (ci := 8) (kk := 0) dd_M_isSo_0.2.2.2.2.2.2.1 rfl in_M (by decide) wd_938 (gR_spec e2) ?_
  refine g_bipush (pc := 12) (41 : Int32) dd_M_isSo_0.2.2.2.2.2.2.2.1 (by decide) ?_
  obtain ⟨x3, e4, hf⟩ := bd1_e hf
  refine g_iald (pc := 14) dd_M_isSo_0.2.2.2.2.2.2.2.2.1 e4 ?_
  refine g_icmpge (pc := 15) 82 dd_M_isSo_0.2.2.2.2.2.2.2.2.2.1 (by decide) (fun c22 => ?_) (fun c22 => ?_)
  · replace hf := (if_pos c22).symm.trans hf
    refine g_iload (pc := 82) 4 dd_M_isSo_43.2.2.2.2.2.2.2.2.2.2.2.2.2.2.2.2.2.2.2.2.2.2.1 rfl ?_
    by_cases c5 : b4 = 0 ∨ b4 = 1
    · replace hf := (if_pos c5).symm.trans hf
      obtain ⟨rfl, rfl⟩ := ret2 hf
      exact g_zret (pc := 84) rfl (nar_z c5) dd_M_isSo_43.2.2.2.2.2.2.2.2.2.2.2.2.2.2.2.2.2.2.2.2.2.2.2
    · exact absurd ((if_neg c5).symm.trans hf) (by simp)
  · replace hf := (if_neg c22).symm.trans hf
    refine g_bipush (pc := 18) (42 : Int32) dd_M_isSo_0.2.2.2.2.2.2.2.2.2.2.1 (by decide) ?_
    refine g_iconst (pc := 20) (3 : Int32) dd_M_isSo_0.2.2.2.2.2.2.2.2.2.2.2.1 (by decide) ?_
    refine g_iload (pc := 21) 5 dd_M_isSo_0.2.2.2.2.2.2.2.2.2.2.2.2.1 rfl ?_
    refine g_imul (pc := 23) dd_M_isSo_0.2.2.2.2.2.2.2.2.2.2.2.2.2.1 ?_
    refine g_iadd (pc := 24) dd_M_isSo_0.2.2.2.2.2.2.2.2.2.2.2.2.2.2.1 ?_
    refine g_istore (pc := 25) [(6, .int ((42 : Int32) + ((3 : Int32) * b5))), (0, .ref b0), (1, .int b1), (2, .int b2), (3, .int b3), (4, .int b4), (5, .int b5)] dd_M_isSo_0.2.2.2.2.2.2.2.2.2.2.2.2.2.2.2.1 (Nat.le_of_ble_eq_true rfl) rfl ?_
    refine g_iload (pc := 27) 5 dd_M_isSo_0.2.2.2.2.2.2.2.2.2.2.2.2.2.2.2.2.1 rfl ?_
    refine g_ifeq (pc := 29) 73 dd_M_isSo_0.2.2.2.2.2.2.2.2.2.2.2.2.2.2.2.2.2.1 (by decide) (fun c21 => ?_) (fun c21 => ?_)
    · replace hf := (if_pos c21).symm.trans hf
      refine g_lv [1, 2, 3, 4, 6] rfl ?_
      exact t_M_isSo_73 rec6 hrec6 _ _ _ _ _ _ _ _  hf
    · replace hf := (if_neg c21).symm.trans hf
      refine g_aload_n (pc := 32) 1 dd_M_isSo_0.2.2.2.2.2.2.2.2.2.2.2.2.2.2.2.2.2.2.1 rfl rfl ?_
      obtain ⟨x6, e7, hf⟩ := bd1_e hf
      refine g_get (pc := 33) (ci := 8) (kk := 0) dd_M_isSo_0.2.2.2.2.2.2.2.2.2.2.2.2.2.2.2.2.2.2.2.1 rfl in_M (by decide) wd_938 (gR_spec e7) ?_
      refine g_iload (pc := 36) 0 dd_M_isSo_0.2.2.2.2.2.2.2.2.2.2.2.2.2.2.2.2.2.2.2.2.1 rfl ?_
      obtain ⟨x8, e9, hf⟩ := bd1_e hf
      refine g_iald (pc := 38) dd_M_isSo_0.2.2.2.2.2.2.2.2.2.2.2.2.2.2.2.2.2.2.2.2.2.1 e9 ?_
      refine g_iload_n (pc := 39) 2 dd_M_isSo_0.2.2.2.2.2.2.2.2.2.2.2.2.2.2.2.2.2.2.2.2.2.2.1 rfl rfl ?_
      refine g_icmpne (pc := 40) 69 dd_M_isSo_0.2.2.2.2.2.2.2.2.2.2.2.2.2.2.2.2.2.2.2.2.2.2.2 (by decide) (fun c20 => ?_) (fun c20 => ?_)
      · replace hf := (if_neg c20).symm.trans hf
        refine g_lv [1, 2, 3, 4, 6] rfl ?_
        exact t_M_isSo_69 rec6 hrec6 _ _ _ _ _ _ _ _  hf
      · replace hf := (if_pos c20).symm.trans hf
        refine g_aload_n (pc := 43) 1 dd_M_isSo_43.1 rfl rfl ?_
        obtain ⟨x10, e11, hf⟩ := bd1_e hf
        refine g_get (pc := 44) (ci := 8) (kk := 0) dd_M_isSo_43.2.1 rfl in_M (by decide) wd_938 (gR_spec e11) ?_
        refine g_iload (pc := 47) 0 dd_M_isSo_43.2.2.1 rfl ?_
        refine g_iconst (pc := 49) (1 : Int32) dd_M_isSo_43.2.2.2.1 (by decide) ?_
        refine g_iadd (pc := 50) dd_M_isSo_43.2.2.2.2.1 ?_
        obtain ⟨x12, e13, hf⟩ := bd1_e hf
        refine g_iald (pc := 51) dd_M_isSo_43.2.2.2.2.2.1 e13 ?_
        refine g_iload_n (pc := 52) 3 dd_M_isSo_43.2.2.2.2.2.2.1 rfl rfl ?_
        refine g_icmpne (pc := 53) 69 dd_M_isSo_43.2.2.2.2.2.2.2.1 (by decide) (fun c19 => ?_) (fun c19 => ?_)
        · replace hf := (if_neg c19).symm.trans hf
          refine g_lv [1, 2, 3, 4, 6] rfl ?_
          exact t_M_isSo_69 rec6 hrec6 _ _ _ _ _ _ _ _  hf
        · replace hf := (if_pos c19).symm.trans hf
          refine g_aload_n (pc := 56) 1 dd_M_isSo_43.2.2.2.2.2.2.2.2.1 rfl rfl ?_
          obtain ⟨x14, e15, hf⟩ := bd1_e hf
          refine g_get (pc := 57) (ci := 8) (kk := 0) dd_M_isSo_43.2.2.2.2.2.2.2.2.2.1 rfl in_M (by decide) wd_938 (gR_spec e15) ?_
          refine g_iload (pc := 60) 0 dd_M_isSo_43.2.2.2.2.2.2.2.2.2.2.1 rfl ?_
          refine g_iconst (pc := 62) (2 : Int32) dd_M_isSo_43.2.2.2.2.2.2.2.2.2.2.2.1 (by decide) ?_
          refine g_iadd (pc := 63) dd_M_isSo_43.2.2.2.2.2.2.2.2.2.2.2.2.1 ?_
          obtain ⟨x16, e17, hf⟩ := bd1_e hf
          refine g_iald (pc := 64) dd_M_isSo_43.2.2.2.2.2.2.2.2.2.2.2.2.2.1 e17 ?_
          refine g_iload_n (pc := 65) 4 dd_M_isSo_43.2.2.2.2.2.2.2.2.2.2.2.2.2.2.1 rfl rfl ?_
          refine g_icmpne (pc := 66) 73 dd_M_isSo_43.2.2.2.2.2.2.2.2.2.2.2.2.2.2.2.1 (by decide) (fun c18 => ?_) (fun c18 => ?_)
          · replace hf := (if_neg c18).symm.trans hf
            refine g_lv [1, 2, 3, 4, 6] rfl ?_
            exact t_M_isSo_73 rec6 hrec6 _ _ _ _ _ _ _ _  hf
          · replace hf := (if_pos c18).symm.trans hf
            refine g_lv [1, 2, 3, 4, 6] rfl ?_
            exact t_M_isSo_69 rec6 hrec6 _ _ _ _ _ _ _ _  hf
def f_M_isSo_6  : Nat → Nat → Int32 → Int32 → Int32 → Int32 → Int32 → mH → Option (Int32 × mH)
  | 0 => fun _ _ _ _ _ _ _ => none
  | n + 1 => f_M_isSo_6b  (f_M_isSo_6  n)
theorem t_M_isSo_6 {sc : Nat × (Nat → Int32)}  : ∀ (n : Nat) (b0 : Nat) (b1 : Int32) (b2 : Int32) (b3 : Int32) (b4 : Int32) (b5 : Int32) (h : mH) (r : Int32) (h' : mH) (hf : f_M_isSo_6  n b0 b1 b2 b3 b4 b5 h = some (r, h')), G sc y_M_isSo prog_10_method_73_code 7 (some .boolean) 0 0 6 [(0, .ref b0), (1, .int b1), (2, .int b2), (3, .int b3), (4, .int b4), (5, .int b5)] [] h (some (.int r)) h'
  | 0, _, _, _, _, _, _, _, _, _, hf => by cases hf
  | n + 1, _, _, _, _, _, _, _, _, _, hf => t_M_isSo_6b  (f_M_isSo_6  n) (t_M_isSo_6  n) _ _ _ _ _ _ _ _ _ hf
def f_M_isSo_0  (a0 : Nat) (a1 : Int32) (a2 : Int32) (a3 : Int32) (h : mH) : Option (Int32 × mH) :=
  f_M_isSo_6  FU a0 a1 a2 a3 (1 : Int32) (0 : Int32) h
set_option maxRecDepth 20000 in
theorem t_M_isSo_0 {sc : Nat × (Nat → Int32)}  (a0 : Nat) (a1 : Int32) (a2 : Int32) (a3 : Int32) (h : mH) (r : Int32) (h' : mH) (hf : f_M_isSo_0  a0 a1 a2 a3 h = some (r, h')) : G sc y_M_isSo prog_10_method_73_code 7 (some .boolean) 0 0 0 [(0, .ref a0), (1, .int a1), (2, .int a2), (3, .int a3)] [] h (some (.int r)) h' := by
  unfold f_M_isSo_0 at hf
  refine g_iconst (pc := 0) (1 : Int32) dd_M_isSo_0.1 (by decide) ?_
  refine g_istore (pc := 1) [(4, .int (1 : Int32)), (0, .ref a0), (1, .int a1), (2, .int a2), (3, .int a3)] dd_M_isSo_0.2.1 (Nat.le_of_ble_eq_true rfl) rfl ?_
  refine g_iconst (pc := 3) (0 : Int32) dd_M_isSo_0.2.2.1 (by decide) ?_
  refine g_istore (pc := 4) [(5, .int (0 : Int32)), (4, .int (1 : Int32)), (0, .ref a0), (1, .int a1), (2, .int a2), (3, .int a3)] dd_M_isSo_0.2.2.2.1 (Nat.le_of_ble_eq_true rfl) rfl ?_
  refine g_lv [2, 3, 4, 5, 1, 0] rfl ?_
  exact t_M_isSo_6  FU _ _ _ _ _ _ _ _ _  hf
def f_M_isSo (a0 : Nat) (a1 : Int32) (a2 : Int32) (a3 : Int32) (h : mH) : Option (Int32 × mH) := f_M_isSo_0 a0 a1 a2 a3 h
theorem c_M_isSo {sc : Nat × (Nat → Int32)} {a0 : Nat} {a1 : Int32} {a2 : Int32} {a3 : Int32} {h : mH} {r : Int32} {h' : mH} (hf : f_M_isSo a0 a1 a2 a3 h = some (r, h')) : MM sc y_M_isSo prog_10_method_73_code 7 (some .boolean) 0 0 [.ref a0, .int a1, .int a2, .int a3] h (some (.int r)) h' :=
  mm_of_G si_pn_M (Nat.le_of_ble_eq_true rfl) (t_M_isSo_0 _ _ _ _ _ _ _ hf)
/-! M isAsked (IIIIII)Z -/
set_option maxRecDepth 100000 in
theorem dd_M_isAsked_0 : (decode prog_10_method_75_code 0 = .ok (.iload_n 1, 1)) ∧ (decode prog_10_method_75_code 1 = .ok (.iload 4, 2)) ∧ (decode prog_10_method_75_code 3 = .ok (.if_icmp .ne 15, 3)) ∧ (decode prog_10_method_75_code 6 = .ok (.iload_n 2, 1)) ∧ (decode prog_10_method_75_code 7 = .ok (.iload 5, 2)) ∧ (decode prog_10_method_75_code 9 = .ok (.if_icmp .ne 9, 3)) ∧ (decode prog_10_method_75_code 12 = .ok (.iload_n 3, 1)) ∧ (decode prog_10_method_75_code 13 = .ok (.iload 6, 2)) ∧ (decode prog_10_method_75_code 15 = .ok (.if_icmp .ne 7, 3)) ∧ (decode prog_10_method_75_code 18 = .ok (.iconst 1, 1)) ∧ (decode prog_10_method_75_code 19 = .ok (.goto 4, 3)) ∧ (decode prog_10_method_75_code 22 = .ok (.iconst 0, 1)) ∧ (decode prog_10_method_75_code 23 = .ok (.ireturn, 1)) := by
  have h : List.drop 0 prog_10_method_75_code.data.toList = 0x1b :: _ := rfl
  refine ⟨zq_k_n 27 h rfl (zq_o_27 _), ?_⟩
  replace h := zq_nx1 (q := 1) h rfl
  refine ⟨zq_k_u1 21 (fun z => .iload z) 4 h rfl (zq_o_21 _) (by decide +kernel), ?_⟩
  replace h := zq_nx2 (q := 3) h rfl
  refine ⟨zq_k_s2 160 (fun z => .if_icmp .ne z) 15 h rfl (zq_o_160 _) (by decide +kernel), ?_⟩
  replace h := zq_nx3 (q := 6) h rfl
  refine ⟨zq_k_n 28 h rfl (zq_o_28 _), ?_⟩
  replace h := zq_nx1 (q := 7) h rfl
  refine ⟨zq_k_u1 21 (fun z => .iload z) 5 h rfl (zq_o_21 _) (by decide +kernel), ?_⟩
  replace h := zq_nx2 (q := 9) h rfl
  refine ⟨zq_k_s2 160 (fun z => .if_icmp .ne z) 9 h rfl (zq_o_160 _) (by decide +kernel), ?_⟩
  replace h := zq_nx3 (q := 12) h rfl
  refine ⟨zq_k_n 29 h rfl (zq_o_29 _), ?_⟩
  replace h := zq_nx1 (q := 13) h rfl
  refine ⟨zq_k_u1 21 (fun z => .iload z) 6 h rfl (zq_o_21 _) (by decide +kernel), ?_⟩
  replace h := zq_nx2 (q := 15) h rfl
  refine ⟨zq_k_s2 160 (fun z => .if_icmp .ne z) 7 h rfl (zq_o_160 _) (by decide +kernel), ?_⟩
  replace h := zq_nx3 (q := 18) h rfl
  refine ⟨zq_k_n 4 h rfl (zq_o_4 _), ?_⟩
  replace h := zq_nx1 (q := 19) h rfl
  refine ⟨zq_k_s2 167 (fun z => .goto z) 4 h rfl (zq_o_167 _) (by decide +kernel), ?_⟩
  replace h := zq_nx3 (q := 22) h rfl
  refine ⟨zq_k_n 3 h rfl (zq_o_3 _), ?_⟩
  replace h := zq_nx1 (q := 23) h rfl
  exact zq_k_n 172 h rfl (zq_o_172 _)
def f_M_isAsked_18   (h : mH) : Option (Int32 × mH) :=
  some ((1 : Int32), h)
set_option maxRecDepth 20000 in
theorem t_M_isAsked_18 {sc : Nat × (Nat → Int32)}   (h : mH) (r : Int32) (h' : mH) (hf : f_M_isAsked_18   h = some (r, h')) : G sc y_M_isAsked prog_10_method_75_code 7 (some .boolean) 0 0 18 [] [] h (some (.int r)) h' := by
  unfold f_M_isAsked_18 at hf
  refine g_iconst (pc := 18) (1 : Int32) dd_M_isAsked_0.2.2.2.2.2.2.2.2.2.1 (by decide) ?_
  refine g_goto (pc := 19) 23 dd_M_isAsked_0.2.2.2.2.2.2.2.2.2.2.1 (by decide) ?_
  obtain ⟨rfl, rfl⟩ := ret2 hf
  exact g_zret (pc := 23) rfl rfl dd_M_isAsked_0.2.2.2.2.2.2.2.2.2.2.2.2
def f_M_isAsked_0  (a0 : Nat) (a1 : Int32) (a2 : Int32) (a3 : Int32) (a4 : Int32) (a5 : Int32) (a6 : Int32) (h : mH) : Option (Int32 × mH) :=
  if a1 = a4 then
    if a2 = a5 then
      if a3 = a6 then
        f_M_isAsked_18  h
      else
        some ((0 : Int32), h)
    else
      f_M_isAsked_18  h
  else
    f_M_isAsked_18  h
set_option maxRecDepth 20000 in
theorem t_M_isAsked_0 {sc : Nat × (Nat → Int32)}  (a0 : Nat) (a1 : Int32) (a2 : Int32) (a3 : Int32) (a4 : Int32) (a5 : Int32) (a6 : Int32) (h : mH) (r : Int32) (h' : mH) (hf : f_M_isAsked_0  a0 a1 a2 a3 a4 a5 a6 h = some (r, h')) : G sc y_M_isAsked prog_10_method_75_code 7 (some .boolean) 0 0 0 [(0, .ref a0), (1, .int a1), (2, .int a2), (3, .int a3), (4, .int a4), (5, .int a5), (6, .int a6)] [] h (some (.int r)) h' := by
  unfold f_M_isAsked_0 at hf
  refine g_iload_n (pc := 0) 1 dd_M_isAsked_0.1 rfl rfl ?_
  refine g_iload (pc := 1) 4 dd_M_isAsked_0.2.1 rfl ?_
  refine g_icmpne (pc := 3) 18 dd_M_isAsked_0.2.2.1 (by decide) (fun c3 => ?_) (fun c3 => ?_)
  · replace hf := (if_neg c3).symm.trans hf
    refine g_lv [] rfl ?_
    exact t_M_isAsked_18  _ _ _  hf
  · replace hf := (if_pos c3).symm.trans hf
    refine g_iload_n (pc := 6) 2 dd_M_isAsked_0.2.2.2.1 rfl rfl ?_
    refine g_iload (pc := 7) 5 dd_M_isAsked_0.2.2.2.2.1 rfl ?_
    refine g_icmpne (pc := 9) 18 dd_M_isAsked_0.2.2.2.2.2.1 (by decide) (fun c2 => ?_) (fun c2 => ?_)
    · replace hf := (if_neg c2).symm.trans hf
      refine g_lv [] rfl ?_
      exact t_M_isAsked_18  _ _ _  hf
    · replace hf := (if_pos c2).symm.trans hf
      refine g_iload_n (pc := 12) 3 dd_M_isAsked_0.2.2.2.2.2.2.1 rfl rfl ?_
      refine g_iload (pc := 13) 6 dd_M_isAsked_0.2.2.2.2.2.2.2.1 rfl ?_
      refine g_icmpne (pc := 15) 22 dd_M_isAsked_0.2.2.2.2.2.2.2.2.1 (by decide) (fun c1 => ?_) (fun c1 => ?_)
      · replace hf := (if_neg c1).symm.trans hf
        refine g_iconst (pc := 22) (0 : Int32) dd_M_isAsked_0.2.2.2.2.2.2.2.2.2.2.2.1 (by decide) ?_
        obtain ⟨rfl, rfl⟩ := ret2 hf
        exact g_zret (pc := 23) rfl rfl dd_M_isAsked_0.2.2.2.2.2.2.2.2.2.2.2.2
      · replace hf := (if_pos c1).symm.trans hf
        refine g_lv [] rfl ?_
        exact t_M_isAsked_18  _ _ _  hf
def f_M_isAsked (a0 : Nat) (a1 : Int32) (a2 : Int32) (a3 : Int32) (a4 : Int32) (a5 : Int32) (a6 : Int32) (h : mH) : Option (Int32 × mH) := f_M_isAsked_0 a0 a1 a2 a3 a4 a5 a6 h
theorem c_M_isAsked {sc : Nat × (Nat → Int32)} {a0 : Nat} {a1 : Int32} {a2 : Int32} {a3 : Int32} {a4 : Int32} {a5 : Int32} {a6 : Int32} {h : mH} {r : Int32} {h' : mH} (hf : f_M_isAsked a0 a1 a2 a3 a4 a5 a6 h = some (r, h')) : MM sc y_M_isAsked prog_10_method_75_code 7 (some .boolean) 0 0 [.ref a0, .int a1, .int a2, .int a3, .int a4, .int a5, .int a6] h (some (.int r)) h' :=
  mm_of_G si_pn_M (Nat.le_of_ble_eq_true rfl) (t_M_isAsked_0 _ _ _ _ _ _ _ _ _ _ hf)
/-! M addsTables (III)V -/
set_option maxRecDepth 100000 in
theorem dd_M_addsTables_0 : (decode prog_10_method_77_code 0 = .ok (.iconst 0, 1)) ∧ (decode prog_10_method_77_code 1 = .ok (.istore 4, 2)) ∧ (decode prog_10_method_77_code 3 = .ok (.iload 4, 2)) ∧ (decode prog_10_method_77_code 5 = .ok (.sipush 216, 3)) ∧ (decode prog_10_method_77_code 8 = .ok (.if_icmp .ge 89, 3)) ∧ (decode prog_10_method_77_code 11 = .ok (.iload 4, 2)) ∧ (decode prog_10_method_77_code 13 = .ok (.bipush 36, 2)) ∧ (decode prog_10_method_77_code 15 = .ok (.idiv, 1)) ∧ (decode prog_10_method_77_code 16 = .ok (.iload_n 1, 1)) ∧ (decode prog_10_method_77_code 17 = .ok (.iadd, 1)) ∧ (decode prog_10_method_77_code 18 = .ok (.istore 5, 2)) ∧ (decode prog_10_method_77_code 20 = .ok (.iload 4, 2)) ∧ (decode prog_10_method_77_code 22 = .ok (.bipush 6, 2)) ∧ (decode prog_10_method_77_code 24 = .ok (.idiv, 1)) ∧ (decode prog_10_method_77_code 25 = .ok (.bipush 6, 2)) ∧ (decode prog_10_method_77_code 27 = .ok (.irem, 1)) ∧ (decode prog_10_method_77_code 28 = .ok (.iload_n 2, 1)) ∧ (decode prog_10_method_77_code 29 = .ok (.iadd, 1)) ∧ (decode prog_10_method_77_code 30 = .ok (.istore 6, 2)) ∧ (decode prog_10_method_77_code 32 = .ok (.iload 4, 2)) ∧ (decode prog_10_method_77_code 34 = .ok (.bipush 6, 2)) ∧ (decode prog_10_method_77_code 36 = .ok (.irem, 1)) ∧ (decode prog_10_method_77_code 37 = .ok (.iload_n 3, 1)) ∧ (decode prog_10_method_77_code 38 = .ok (.iadd, 1)) := by
  have h : List.drop 0 prog_10_method_77_code.data.toList = 0x03 :: _ := rfl
  refine ⟨zq_k_n 3 h rfl (zq_o_3 _), ?_⟩
  replace h := zq_nx1 (q := 1) h rfl
  refine ⟨zq_k_u1 54 (fun z => .istore z) 4 h rfl (zq_o_54 _) (by decide +kernel), ?_⟩
  replace h := zq_nx2 (q := 3) h rfl
  refine ⟨zq_k_u1 21 (fun z => .iload z) 4 h rfl (zq_o_21 _) (by decide +kernel), ?_⟩
  replace h := zq_nx2 (q := 5) h rfl
  refine ⟨zq_k_s2 17 (fun z => .sipush z) 216 h rfl (zq_o_17 _) (by decide +kernel), ?_⟩
  replace h := zq_nx3 (q := 8) h rfl
  refine ⟨zq_k_s2 162 (fun z => .if_icmp .ge z) 89 h rfl (zq_o_162 _) (by decide +kernel), ?_⟩
  replace h := zq_nx3 (q := 11) h rfl
  refine ⟨zq_k_u1 21 (fun z => .iload z) 4 h rfl (zq_o_21 _) (by decide +kernel), ?_⟩
  replace h := zq_nx2 (q := 13) h rfl
  refine ⟨zq_k_s1 16 (fun z => .bipush z) 36 h rfl (zq_o_16 _) (by decide +kernel), ?_⟩
  replace h := zq_nx2 (q := 15) h rfl
  refine ⟨zq_k_n 108 h rfl (zq_o_108 _), ?_⟩
  replace h := zq_nx1 (q := 16) h rfl
  refine ⟨zq_k_n 27 h rfl (zq_o_27 _), ?_⟩
  replace h := zq_nx1 (q := 17) h rfl
  refine ⟨zq_k_n 96 h rfl (zq_o_96 _), ?_⟩
  replace h := zq_nx1 (q := 18) h rfl
  refine ⟨zq_k_u1 54 (fun z => .istore z) 5 h rfl (zq_o_54 _) (by decide +kernel), ?_⟩
  replace h := zq_nx2 (q := 20) h rfl
  refine ⟨zq_k_u1 21 (fun z => .iload z) 4 h rfl (zq_o_21 _) (by decide +kernel), ?_⟩
  replace h := zq_nx2 (q := 22) h rfl
  refine ⟨zq_k_s1 16 (fun z => .bipush z) 6 h rfl (zq_o_16 _) (by decide +kernel), ?_⟩
  replace h := zq_nx2 (q := 24) h rfl
  refine ⟨zq_k_n 108 h rfl (zq_o_108 _), ?_⟩
  replace h := zq_nx1 (q := 25) h rfl
  refine ⟨zq_k_s1 16 (fun z => .bipush z) 6 h rfl (zq_o_16 _) (by decide +kernel), ?_⟩
  replace h := zq_nx2 (q := 27) h rfl
  refine ⟨zq_k_n 112 h rfl (zq_o_112 _), ?_⟩
  replace h := zq_nx1 (q := 28) h rfl
  refine ⟨zq_k_n 28 h rfl (zq_o_28 _), ?_⟩
  replace h := zq_nx1 (q := 29) h rfl
  refine ⟨zq_k_n 96 h rfl (zq_o_96 _), ?_⟩
  replace h := zq_nx1 (q := 30) h rfl
  refine ⟨zq_k_u1 54 (fun z => .istore z) 6 h rfl (zq_o_54 _) (by decide +kernel), ?_⟩
  replace h := zq_nx2 (q := 32) h rfl
  refine ⟨zq_k_u1 21 (fun z => .iload z) 4 h rfl (zq_o_21 _) (by decide +kernel), ?_⟩
  replace h := zq_nx2 (q := 34) h rfl
  refine ⟨zq_k_s1 16 (fun z => .bipush z) 6 h rfl (zq_o_16 _) (by decide +kernel), ?_⟩
  replace h := zq_nx2 (q := 36) h rfl
  refine ⟨zq_k_n 112 h rfl (zq_o_112 _), ?_⟩
  replace h := zq_nx1 (q := 37) h rfl
  refine ⟨zq_k_n 29 h rfl (zq_o_29 _), ?_⟩
  replace h := zq_nx1 (q := 38) h rfl
  exact zq_k_n 96 h rfl (zq_o_96 _)
set_option maxRecDepth 100000 in
theorem dd_M_addsTables_39 : (decode prog_10_method_77_code 39 = .ok (.istore 7, 2)) ∧ (decode prog_10_method_77_code 41 = .ok (.iload 5, 2)) ∧ (decode prog_10_method_77_code 43 = .ok (.bipush 6, 2)) ∧ (decode prog_10_method_77_code 45 = .ok (.if_icmp .ge 46, 3)) ∧ (decode prog_10_method_77_code 48 = .ok (.iload 6, 2)) ∧ (decode prog_10_method_77_code 50 = .ok (.bipush 6, 2)) ∧ (decode prog_10_method_77_code 52 = .ok (.if_icmp .ge 39, 3)) ∧ (decode prog_10_method_77_code 55 = .ok (.iload 7, 2)) ∧ (decode prog_10_method_77_code 57 = .ok (.bipush 6, 2)) ∧ (decode prog_10_method_77_code 59 = .ok (.if_icmp .ge 32, 3)) ∧ (decode prog_10_method_77_code 62 = .ok (.aload_n 0, 1)) ∧ (decode prog_10_method_77_code 63 = .ok (.getfield 75, 3)) ∧ (decode prog_10_method_77_code 66 = .ok (.bipush 36, 2)) ∧ (decode prog_10_method_77_code 68 = .ok (.iload 5, 2)) ∧ (decode prog_10_method_77_code 70 = .ok (.imul, 1)) ∧ (decode prog_10_method_77_code 71 = .ok (.bipush 6, 2)) ∧ (decode prog_10_method_77_code 73 = .ok (.iload 6, 2)) ∧ (decode prog_10_method_77_code 75 = .ok (.imul, 1)) ∧ (decode prog_10_method_77_code 76 = .ok (.iadd, 1)) ∧ (decode prog_10_method_77_code 77 = .ok (.iload 7, 2)) ∧ (decode prog_10_method_77_code 79 = .ok (.iadd, 1)) ∧ (decode prog_10_method_77_code 80 = .ok (.dup2, 1)) ∧ (decode prog_10_method_77_code 81 = .ok (.laload, 1)) ∧ (decode prog_10_method_77_code 82 = .ok (.aload_n 0, 1)) := by
  have h : List.drop 39 prog_10_method_77_code.data.toList = 0x36 :: _ := rfl
  refine ⟨zq_k_u1 54 (fun z => .istore z) 7 h rfl (zq_o_54 _) (by decide +kernel), ?_⟩
  replace h := zq_nx2 (q := 41) h rfl
  refine ⟨zq_k_u1 21 (fun z => .iload z) 5 h rfl (zq_o_21 _) (by decide +kernel), ?_⟩
  replace h := zq_nx2 (q := 43) h rfl
  refine ⟨zq_k_s1 16 (fun z => .bipush z) 6 h rfl (zq_o_16 _) (by decide +kernel), ?_⟩
  replace h := zq_nx2 (q := 45) h rfl
  refine ⟨zq_k_s2 162 (fun z => .if_icmp .ge z) 46 h rfl (zq_o_162 _) (by decide +kernel), ?_⟩
  replace h := zq_nx3 (q := 48) h rfl
  refine ⟨zq_k_u1 21 (fun z => .iload z) 6 h rfl (zq_o_21 _) (by decide +kernel), ?_⟩
  replace h := zq_nx2 (q := 50) h rfl
  refine ⟨zq_k_s1 16 (fun z => .bipush z) 6 h rfl (zq_o_16 _) (by decide +kernel), ?_⟩
  replace h := zq_nx2 (q := 52) h rfl
  refine ⟨zq_k_s2 162 (fun z => .if_icmp .ge z) 39 h rfl (zq_o_162 _) (by decide +kernel), ?_⟩
  replace h := zq_nx3 (q := 55) h rfl
  refine ⟨zq_k_u1 21 (fun z => .iload z) 7 h rfl (zq_o_21 _) (by decide +kernel), ?_⟩
  replace h := zq_nx2 (q := 57) h rfl
  refine ⟨zq_k_s1 16 (fun z => .bipush z) 6 h rfl (zq_o_16 _) (by decide +kernel), ?_⟩
  replace h := zq_nx2 (q := 59) h rfl
  refine ⟨zq_k_s2 162 (fun z => .if_icmp .ge z) 32 h rfl (zq_o_162 _) (by decide +kernel), ?_⟩
  replace h := zq_nx3 (q := 62) h rfl
  refine ⟨zq_k_n 42 h rfl (zq_o_42 _), ?_⟩
  replace h := zq_nx1 (q := 63) h rfl
  refine ⟨zq_k_u2 180 (fun z => .getfield z) 75 h rfl (zq_o_180 _) (by decide +kernel), ?_⟩
  replace h := zq_nx3 (q := 66) h rfl
  refine ⟨zq_k_s1 16 (fun z => .bipush z) 36 h rfl (zq_o_16 _) (by decide +kernel), ?_⟩
  replace h := zq_nx2 (q := 68) h rfl
  refine ⟨zq_k_u1 21 (fun z => .iload z) 5 h rfl (zq_o_21 _) (by decide +kernel), ?_⟩
  replace h := zq_nx2 (q := 70) h rfl
  refine ⟨zq_k_n 104 h rfl (zq_o_104 _), ?_⟩
  replace h := zq_nx1 (q := 71) h rfl
  refine ⟨zq_k_s1 16 (fun z => .bipush z) 6 h rfl (zq_o_16 _) (by decide +kernel), ?_⟩
  replace h := zq_nx2 (q := 73) h rfl
  refine ⟨zq_k_u1 21 (fun z => .iload z) 6 h rfl (zq_o_21 _) (by decide +kernel), ?_⟩
  replace h := zq_nx2 (q := 75) h rfl
  refine ⟨zq_k_n 104 h rfl (zq_o_104 _), ?_⟩
  replace h := zq_nx1 (q := 76) h rfl
  refine ⟨zq_k_n 96 h rfl (zq_o_96 _), ?_⟩
  replace h := zq_nx1 (q := 77) h rfl
  refine ⟨zq_k_u1 21 (fun z => .iload z) 7 h rfl (zq_o_21 _) (by decide +kernel), ?_⟩
  replace h := zq_nx2 (q := 79) h rfl
  refine ⟨zq_k_n 96 h rfl (zq_o_96 _), ?_⟩
  replace h := zq_nx1 (q := 80) h rfl
  refine ⟨zq_k_n 92 h rfl (zq_o_92 _), ?_⟩
  replace h := zq_nx1 (q := 81) h rfl
  refine ⟨zq_k_n 47 h rfl (zq_o_47 _), ?_⟩
  replace h := zq_nx1 (q := 82) h rfl
  exact zq_k_n 42 h rfl (zq_o_42 _)
set_option maxRecDepth 100000 in
theorem dd_M_addsTables_83 : (decode prog_10_method_77_code 83 = .ok (.getfield 72, 3)) ∧ (decode prog_10_method_77_code 86 = .ok (.iload 4, 2)) ∧ (decode prog_10_method_77_code 88 = .ok (.laload, 1)) ∧ (decode prog_10_method_77_code 89 = .ok (.ladd, 1)) ∧ (decode prog_10_method_77_code 90 = .ok (.lastore, 1)) ∧ (decode prog_10_method_77_code 91 = .ok (.iinc 4 1, 3)) ∧ (decode prog_10_method_77_code 94 = .ok (.goto (-91), 3)) ∧ (decode prog_10_method_77_code 97 = .ok (.return_, 1)) := by
  have h : List.drop 83 prog_10_method_77_code.data.toList = 0xb4 :: _ := rfl
  refine ⟨zq_k_u2 180 (fun z => .getfield z) 72 h rfl (zq_o_180 _) (by decide +kernel), ?_⟩
  replace h := zq_nx3 (q := 86) h rfl
  refine ⟨zq_k_u1 21 (fun z => .iload z) 4 h rfl (zq_o_21 _) (by decide +kernel), ?_⟩
  replace h := zq_nx2 (q := 88) h rfl
  refine ⟨zq_k_n 47 h rfl (zq_o_47 _), ?_⟩
  replace h := zq_nx1 (q := 89) h rfl
  refine ⟨zq_k_n 97 h rfl (zq_o_97 _), ?_⟩
  replace h := zq_nx1 (q := 90) h rfl
  refine ⟨zq_k_n 80 h rfl (zq_o_80 _), ?_⟩
  replace h := zq_nx1 (q := 91) h rfl
  refine ⟨zq_k_iinc 4 1 h rfl (zq_o_132 _) (by decide +kernel) (by decide +kernel), ?_⟩
  replace h := zq_nx3 (q := 94) h rfl
  refine ⟨zq_k_s2 167 (fun z => .goto z) (-91) h rfl (zq_o_167 _) (by decide +kernel), ?_⟩
  replace h := zq_nx3 (q := 97) h rfl
  exact zq_k_n 177 h rfl (zq_o_177 _)
def f_M_addsTables_91 (rec3 : Nat → Int32 → Int32 → Int32 → Int32 → mH → Option mH) (b0 : Nat) (b1 : Int32) (b2 : Int32) (b3 : Int32) (b4 : Int32) (h : mH) : Option mH :=
  rec3 b0 b1 b2 b3 (b4 + (1 : Int32)) h
set_option maxRecDepth 20000 in
theorem t_M_addsTables_91 {sc : Nat × (Nat → Int32)} (rec3 : Nat → Int32 → Int32 → Int32 → Int32 → mH → Option mH) (hrec3 : ∀ (b0 : Nat) (b1 : Int32) (b2 : Int32) (b3 : Int32) (b4 : Int32) (h : mH) (h' : mH), rec3 b0 b1 b2 b3 b4 h = some h' → G sc y_M_addsTables prog_10_method_77_code 8 none 0 0 3 [(0, .ref b0), (1, .int b1), (2, .int b2), (3, .int b3), (4, .int b4)] [] h none h') (b0 : Nat) (b1 : Int32) (b2 : Int32) (b3 : Int32) (b4 : Int32) (h : mH) (h' : mH) (hf : f_M_addsTables_91 rec3 b0 b1 b2 b3 b4 h = some h') : G sc y_M_addsTables prog_10_method_77_code 8 none 0 0 91 [(0, .ref b0), (1, .int b1), (2, .int b2), (3, .int b3), (4, .int b4)] [] h none h' := by
  unfold f_M_addsTables_91 at hf
  refine g_iinc (pc := 91) 4 (b4 + (1 : Int32)) [(4, .int (b4 + (1 : Int32))), (0, .ref b0), (1, .int b1), (2, .int b2), (3, .int b3)] dd_M_addsTables_83.2.2.2.2.2.1 rfl rfl (Nat.le_of_ble_eq_true rfl) rfl ?_
  refine g_goto (pc := 94) 3 dd_M_addsTables_83.2.2.2.2.2.2.1 (by decide) ?_
  refine g_lv [1, 2, 3, 4, 0] rfl ?_
  exact hrec3 _ _ _ _ _ _ _  hf
def f_M_addsTables_3b (rec3 : Nat → Int32 → Int32 → Int32 → Int32 → mH → Option mH) (b0 : Nat) (b1 : Int32) (b2 : Int32) (b3 : Int32) (b4 : Int32) (h : mH) : Option mH :=
  if (216 : Int32) ≤ b4 then
    some h
  else
    if (6 : Int32) ≤ ((b4 / (36 : Int32)) + b1) then
      f_M_addsTables_91 rec3 b0 b1 b2 b3 b4 h
    else
      if (6 : Int32) ≤ (((b4 / (6 : Int32)) - (b4 / (6 : Int32)) / (6 : Int32) * (6 : Int32)) + b2) then
        f_M_addsTables_91 rec3 b0 b1 b2 b3 b4 h
      else
        if (6 : Int32) ≤ ((b4 - b4 / (6 : Int32) * (6 : Int32)) + b3) then
          f_M_addsTables_91 rec3 b0 b1 b2 b3 b4 h
        else
          bd1 (gR h b0 8 34) fun x1 =>
          bd1 (aL h x1 ((((36 : Int32) * ((b4 / (36 : Int32)) + b1)) + ((6 : Int32) * (((b4 / (6 : Int32)) - (b4 / (6 : Int32)) / (6 : Int32) * (6 : Int32)) + b2))) + ((b4 - b4 / (6 : Int32) * (6 : Int32)) + b3))) fun x3 =>
          bd1 (gR h b0 8 33) fun x5 =>
          bd1 (aL h x5 b4) fun x7 =>
          bd1 (sL h x1 ((((36 : Int32) * ((b4 / (36 : Int32)) + b1)) + ((6 : Int32) * (((b4 / (6 : Int32)) - (b4 / (6 : Int32)) / (6 : Int32) * (6 : Int32)) + b2))) + ((b4 - b4 / (6 : Int32) * (6 : Int32)) + b3)) (x3 + x7)) fun h9 =>
          f_M_addsTables_91 rec3 b0 b1 b2 b3 b4 h9
set_option maxRecDepth 20000 in
theorem t_M_addsTables_3b {sc : Nat × (Nat → Int32)} (rec3 : Nat → Int32 → Int32 → Int32 → Int32 → mH → Option mH) (hrec3 : ∀ (b0 : Nat) (b1 : Int32) (b2 : Int32) (b3 : Int32) (b4 : Int32) (h : mH) (h' : mH), rec3 b0 b1 b2 b3 b4 h = some h' → G sc y_M_addsTables prog_10_method_77_code 8 none 0 0 3 [(0, .ref b0), (1, .int b1), (2, .int b2), (3, .int b3), (4, .int b4)] [] h none h') (b0 : Nat) (b1 : Int32) (b2 : Int32) (b3 : Int32) (b4 : Int32) (h : mH) (h' : mH) (hf : f_M_addsTables_3b rec3 b0 b1 b2 b3 b4 h = some h') : G sc y_M_addsTables prog_10_method_77_code 8 none 0 0 3 [(0, .ref b0), (1, .int b1), (2, .int b2), (3, .int b3), (4, .int b4)] [] h none h' := by
  unfold f_M_addsTables_3b at hf
  refine g_iload (pc := 3) 4 dd_M_addsTables_0.2.2.1 rfl ?_
  refine g_sipush (pc := 5) (216 : Int32) dd_M_addsTables_0.2.2.2.1 (by decide) ?_
  refine g_icmpge (pc := 8) 97 dd_M_addsTables_0.2.2.2.2.1 (by decide) (fun c14 => ?_) (fun c14 => ?_)
  · replace hf := (if_pos c14).symm.trans hf
    obtain rfl := ret1 hf
    exact g_vret (pc := 97) rfl dd_M_addsTables_83.2.2.2.2.2.2.2
  · replace hf := (if_neg c14).symm.trans hf
    refine g_iload (pc := 11) 4 dd_M_addsTables_0.2.2.2.2.2.1 rfl ?_
    refine g_bipush (pc := 13) (36 : Int32) dd_M_addsTables_0.2.2.2.2.2.2.1 (by decide) ?_
    refine g_idiv (pc := 15) dd_M_addsTables_0.2.2.2.2.2.2.2.1 (by decide) ?_
    refine g_iload_n (pc := 16) 1 dd_M_addsTables_0.2.2.2.2.2.2.2.2.1 rfl rfl ?_
    refine g_iadd (pc := 17) dd_M_addsTables_0.2.2.2.2.2.2.2.2.2.1 ?_
    refine g_istore (pc := 18) [(5, .int ((b4 / (36 : Int32)) + b1)), (0, .ref b0), (1, .int b1), (2, .int b2), (3, .int b3), (4, .int b4)] dd_M_addsTables_0.2.2.2.2.2.2.2.2.2.2.1 (Nat.le_of_ble_eq_true rfl) rfl ?_
    refine g_iload (pc := 20) 5 dd_M_addsTables_0.2.2.2.2.2.2.2.2.2.2.2.1 rfl ?_
    refine g_bipush (pc := 22) (6 : Int32) dd_M_addsTables_0.2.2.2.2.2.2.2.2.2.2.2.2.1 (by decide) ?_
    refine g_idiv (pc := 24) dd_M_addsTables_0.2.2.2.2.2.2.2.2.2.2.2.2.2.1 (by decide) ?_
    refine g_bipush (pc := 25) (6 : Int32) dd_M_addsTables_0.2.2.2.2.2.2.2.2.2.2.2.2.2.2.1 (by decide) ?_
    refine g_irem (pc := 27) dd_M_addsTables_0.2.2.2.2.2.2.2.2.2.2.2.2.2.2.2.1 (by decide) ?_
    refine g_iload_n (pc := 28) 3 dd_M_addsTables_0.2.2.2.2.2.2.2.2.2.2.2.2.2.2.2.2.1 rfl rfl ?_
    refine g_iadd (pc := 29) dd_M_addsTables_0.2.2.2.2.2.2.2.2.2.2.2.2.2.2.2.2.2.1 ?_
    refine g_istore (pc := 30) [(6, .int (((b4 / (6 : Int32)) - (b4 / (6 : Int32)) / (6 : Int32) * (6 : Int32)) + b2)), (5, .int ((b4 / (36 : Int32)) + b1)), (0, .ref b0), (1, .int b1), (2, .int b2), (3, .int b3), (4, .int b4)] dd_M_addsTables_0.2.2.2.2.2.2.2.2.2.2.2.2.2.2.2.2.2.2.1 (Nat.le_of_ble_eq_true rfl) rfl ?_
    refine g_iload (pc := 32) 6 dd_M_addsTables_0.2.2.2.2.2.2.2.2.2.2.2.2.2.2.2.2.2.2.2.1 rfl ?_
    refine g_bipush (pc := 34) (6 : Int32) dd_M_addsTables_0.2.2.2.2.2.2.2.2.2.2.2.2.2.2.2.2.2.2.2.2.1 (by decide) ?_
    refine g_irem (pc := 36) dd_M_addsTables_0.2.2.2.2.2.2.2.2.2.2.2.2.2.2.2.2.2.2.2.2.2.1 (by decide) ?_
    refine g_iload_n (pc := 37) 5 dd_M_addsTables_0.2.2.2.2.2.2.2.2.2.2.2.2.2.2.2.2.2.2.2.2.2.2.1 rfl rfl ?_
    refine g_iadd (pc := 38) dd_M_addsTables_0.2.2.2.2.2.2.2.2.2.2.2.2.2.2.2.2.2.2.2.2.2.2.2 ?_
    refine g_istore (pc := 39) [(7, .int ((b4 - b4 / (6 : Int32) * (6 : Int32)) + b3)), (6, .int (((b4 / (6 : Int32)) - (b4 / (6 : Int32)) / (6 : Int32) * (6 : Int32)) + b2)), (5, .int ((b4 / (36 : Int32)) + b1)), (0, .ref b0), (1, .int b1), (2, .int b2), (3, .int b3), (4, .int b4)] dd_M_addsTables_39.1 (Nat.le_of_ble_eq_true rfl) rfl ?_
    refine g_iload (pc := 41) 2 dd_M_addsTables_39.2.1 rfl ?_
    refine g_bipush (pc := 43) (6 : Int32) dd_M_addsTables_39.2.2.1 (by decide) ?_
    refine g_icmpge (pc := 45) 91 dd_M_addsTables_39.2.2.2.1 (by decide) (fun c13 => ?_) (fun c13 => ?_)
    · replace hf := (if_pos c13).symm.trans hf
      refine g_lv [3, 4, 5, 6, 7] rfl ?_
      exact t_M_addsTables_91 rec3 hrec3 _ _ _ _ _ _ _  hf
    · replace hf := (if_neg c13).symm.trans hf
      refine g_iload (pc := 48) 1 dd_M_addsTables_39.2.2.2.2.1 rfl ?_
      refine g_bipush (pc := 50) (6 : Int32) dd_M_addsTables_39.2.2.2.2.2.1 (by decide) ?_
      refine g_icmpge (pc := 52) 91 dd_M_addsTables_39.2.2.2.2.2.2.1 (by decide) (fun c12 => ?_) (fun c12 => ?_)
      · replace hf := (if_pos c12).symm.trans hf
        refine g_lv [3, 4, 5, 6, 7] rfl ?_
        exact t_M_addsTables_91 rec3 hrec3 _ _ _ _ _ _ _  hf
      · replace hf := (if_neg c12).symm.trans hf
        refine g_iload (pc := 55) 0 dd_M_addsTables_39.2.2.2.2.2.2.2.1 rfl ?_
        refine g_bipush (pc := 57) (6 : Int32) dd_M_addsTables_39.2.2.2.2.2.2.2.2.1 (by decide) ?_
        refine g_icmpge (pc := 59) 91 dd_M_addsTables_39.2.2.2.2.2.2.2.2.2.1 (by decide) (fun c11 => ?_) (fun c11 => ?_)
        · replace hf := (if_pos c11).symm.trans hf
          refine g_lv [3, 4, 5, 6, 7] rfl ?_
          exact t_M_addsTables_91 rec3 hrec3 _ _ _ _ _ _ _  hf
        · replace hf := (if_neg c11).symm.trans hf
          refine g_aload_n (pc := 62) 3 dd_M_addsTables_39.2.2.2.2.2.2.2.2.2.2.1 rfl rfl ?_
          obtain ⟨x1, e2, hf⟩ := bd1_e hf
          refine g_get (pc := 63) (ci := 8) (kk := 34) dd_M_addsTables_39.2.2.2.2.2.2.2.2.2.2.2.1 rfl in_M (by decide) wd_972 (gR_spec e2) ?_
          refine g_bipush (pc := 66) (36 : Int32) dd_M_addsTables_39.2.2.2.2.2.2.2.2.2.2.2.2.1 (by decide) ?_
          refine g_iload (pc := 68) 2 dd_M_addsTables_39.2.2.2.2.2.2.2.2.2.2.2.2.2.1 rfl ?_
          refine g_imul (pc := 70) dd_M_addsTables_39.2.2.2.2.2.2.2.2.2.2.2.2.2.2.1 ?_
          refine g_bipush (pc := 71) (6 : Int32) dd_M_addsTables_39.2.2.2.2.2.2.2.2.2.2.2.2.2.2.2.1 (by decide) ?_
          refine g_iload (pc := 73) 1 dd_M_addsTables_39.2.2.2.2.2.2.2.2.2.2.2.2.2.2.2.2.1 rfl ?_
          refine g_imul (pc := 75) dd_M_addsTables_39.2.2.2.2.2.2.2.2.2.2.2.2.2.2.2.2.2.1 ?_
          refine g_iadd (pc := 76) dd_M_addsTables_39.2.2.2.2.2.2.2.2.2.2.2.2.2.2.2.2.2.2.1 ?_
          refine g_iload (pc := 77) 0 dd_M_addsTables_39.2.2.2.2.2.2.2.2.2.2.2.2.2.2.2.2.2.2.2.1 rfl ?_
          refine g_iadd (pc := 79) dd_M_addsTables_39.2.2.2.2.2.2.2.2.2.2.2.2.2.2.2.2.2.2.2.2.1 ?_
          refine g_dup2 (pc := 80) dd_M_addsTables_39.2.2.2.2.2.2.2.2.2.2.2.2.2.2.2.2.2.2.2.2.2.1 rfl rfl ?_
          obtain ⟨x3, e4, hf⟩ := bd1_e hf
          refine g_lald (pc := 81) dd_M_addsTables_39.2.2.2.2.2.2.2.2.2.2.2.2.2.2.2.2.2.2.2.2.2.2.1 e4 ?_
          refine g_aload_n (pc := 82) 3 dd_M_addsTables_39.2.2.2.2.2.2.2.2.2.2.2.2.2.2.2.2.2.2.2.2.2.2.2 rfl rfl ?_
          obtain ⟨x5, e6, hf⟩ := bd1_e hf
          refine g_get (pc := 83) (ci := 8) (kk := 33) dd_M_addsTables_83.1 rfl in_M (by decide) wd_971 (gR_spec e6) ?_
          refine g_iload (pc := 86) 7 dd_M_addsTables_83.2.1 rfl ?_
          obtain ⟨x7, e8, hf⟩ := bd1_e hf
          refine g_lald (pc := 88) dd_M_addsTables_83.2.2.1 e8 ?_
          refine g_ladd (pc := 89) dd_M_addsTables_83.2.2.2.1 ?_
          obtain ⟨h9, e10, hf⟩ := bd1_e hf
          refine g_last (pc := 90) dd_M_addsTables_83.2.2.2.2.1 e10 ?_
          refine g_lv [3, 4, 5, 6, 7] rfl ?_
          exact t_M_addsTables_91 rec3 hrec3 _ _ _ _ _ _ _  hf
def f_M_addsTables_3  : Nat → Nat → Int32 → Int32 → Int32 → Int32 → mH → Option mH
  | 0 => fun _ _ _ _ _ _ => none
  | n + 1 => f_M_addsTables_3b  (f_M_addsTables_3  n)
theorem t_M_addsTables_3 {sc : Nat × (Nat → Int32)}  : ∀ (n : Nat) (b0 : Nat) (b1 : Int32) (b2 : Int32) (b3 : Int32) (b4 : Int32) (h : mH) (h' : mH) (hf : f_M_addsTables_3  n b0 b1 b2 b3 b4 h = some h'), G sc y_M_addsTables prog_10_method_77_code 8 none 0 0 3 [(0, .ref b0), (1, .int b1), (2, .int b2), (3, .int b3), (4, .int b4)] [] h none h'
  | 0, _, _, _, _, _, _, _, hf => by cases hf
  | n + 1, _, _, _, _, _, _, _, hf => t_M_addsTables_3b  (f_M_addsTables_3  n) (t_M_addsTables_3  n) _ _ _ _ _ _ _ hf
def f_M_addsTables_0  (a0 : Nat) (a1 : Int32) (a2 : Int32) (a3 : Int32) (h : mH) : Option mH :=
  f_M_addsTables_3  FU a0 a1 a2 a3 (0 : Int32) h
set_option maxRecDepth 20000 in
theorem t_M_addsTables_0 {sc : Nat × (Nat → Int32)}  (a0 : Nat) (a1 : Int32) (a2 : Int32) (a3 : Int32) (h : mH) (h' : mH) (hf : f_M_addsTables_0  a0 a1 a2 a3 h = some h') : G sc y_M_addsTables prog_10_method_77_code 8 none 0 0 0 [(0, .ref a0), (1, .int a1), (2, .int a2), (3, .int a3)] [] h none h' := by
  unfold f_M_addsTables_0 at hf
  refine g_iconst (pc := 0) (0 : Int32) dd_M_addsTables_0.1 (by decide) ?_
  refine g_istore (pc := 1) [(4, .int (0 : Int32)), (0, .ref a0), (1, .int a1), (2, .int a2), (3, .int a3)] dd_M_addsTables_0.2.1 (Nat.le_of_ble_eq_true rfl) rfl ?_
  refine g_lv [1, 2, 3, 4, 0] rfl ?_
  exact t_M_addsTables_3  FU _ _ _ _ _ _ _  hf
def f_M_addsTables (a0 : Nat) (a1 : Int32) (a2 : Int32) (a3 : Int32) (h : mH) : Option mH := f_M_addsTables_0 a0 a1 a2 a3 h
theorem c_M_addsTables {sc : Nat × (Nat → Int32)} {a0 : Nat} {a1 : Int32} {a2 : Int32} {a3 : Int32} {h : mH} {h' : mH} (hf : f_M_addsTables a0 a1 a2 a3 h = some h') : MM sc y_M_addsTables prog_10_method_77_code 8 none 0 0 [.ref a0, .int a1, .int a2, .int a3] h none h' :=
  mm_of_G si_pn_M (Nat.le_of_ble_eq_true rfl) (t_M_addsTables_0 _ _ _ _ _ _ hf)
/-! M addsLaw (IIII)V -/
set_option maxRecDepth 100000 in
theorem dd_M_addsLaw_0 : (decode prog_10_method_76_code 0 = .ok (.iconst 0, 1)) ∧ (decode prog_10_method_76_code 1 = .ok (.istore 5, 2)) ∧ (decode prog_10_method_76_code 3 = .ok (.iload 5, 2)) ∧ (decode prog_10_method_76_code 5 = .ok (.sipush 216, 3)) ∧ (decode prog_10_method_76_code 8 = .ok (.if_icmp .ge 17, 3)) ∧ (decode prog_10_method_76_code 11 = .ok (.aload_n 0, 1)) ∧ (decode prog_10_method_76_code 12 = .ok (.getfield 75, 3)) ∧ (decode prog_10_method_76_code 15 = .ok (.iload 5, 2)) ∧ (decode prog_10_method_76_code 17 = .ok (.lconst 0, 1)) ∧ (decode prog_10_method_76_code 18 = .ok (.lastore, 1)) ∧ (decode prog_10_method_76_code 19 = .ok (.iinc 5 1, 3)) ∧ (decode prog_10_method_76_code 22 = .ok (.goto (-19), 3)) ∧ (decode prog_10_method_76_code 25 = .ok (.iconst 0, 1)) ∧ (decode prog_10_method_76_code 26 = .ok (.istore 5, 2)) ∧ (decode prog_10_method_76_code 28 = .ok (.iload 5, 2)) ∧ (decode prog_10_method_76_code 30 = .ok (.aload_n 0, 1)) ∧ (decode prog_10_method_76_code 31 = .ok (.iconst 0, 1)) ∧ (decode prog_10_method_76_code 32 = .ok (.iload_n 1, 1)) ∧ (decode prog_10_method_76_code 33 = .ok (.invokevirtual 294, 3)) ∧ (decode prog_10_method_76_code 36 = .ok (.if_icmp .gt 133, 3)) ∧ (decode prog_10_method_76_code 39 = .ok (.iconst 0, 1)) ∧ (decode prog_10_method_76_code 40 = .ok (.istore 6, 2)) ∧ (decode prog_10_method_76_code 42 = .ok (.iload 6, 2)) ∧ (decode prog_10_method_76_code 44 = .ok (.aload_n 0, 1)) := by
  have h : List.drop 0 prog_10_method_76_code.data.toList = 0x03 :: _ := rfl
  refine ⟨zq_k_n 3 h rfl (zq_o_3 _), ?_⟩
  replace h := zq_nx1 (q := 1) h rfl
  refine ⟨zq_k_u1 54 (fun z => .istore z) 5 h rfl (zq_o_54 _) (by decide +kernel), ?_⟩
  replace h := zq_nx2 (q := 3) h rfl
  refine ⟨zq_k_u1 21 (fun z => .iload z) 5 h rfl (zq_o_21 _) (by decide +kernel), ?_⟩
  replace h := zq_nx2 (q := 5) h rfl
  refine ⟨zq_k_s2 17 (fun z => .sipush z) 216 h rfl (zq_o_17 _) (by decide +kernel), ?_⟩
  replace h := zq_nx3 (q := 8) h rfl
  refine ⟨zq_k_s2 162 (fun z => .if_icmp .ge z) 17 h rfl (zq_o_162 _) (by decide +kernel), ?_⟩
  replace h := zq_nx3 (q := 11) h rfl
  refine ⟨zq_k_n 42 h rfl (zq_o_42 _), ?_⟩
  replace h := zq_nx1 (q := 12) h rfl
  refine ⟨zq_k_u2 180 (fun z => .getfield z) 75 h rfl (zq_o_180 _) (by decide +kernel), ?_⟩
  replace h := zq_nx3 (q := 15) h rfl
  refine ⟨zq_k_u1 21 (fun z => .iload z) 5 h rfl (zq_o_21 _) (by decide +kernel), ?_⟩
  replace h := zq_nx2 (q := 17) h rfl
  refine ⟨zq_k_n 9 h rfl (zq_o_9 _), ?_⟩
  replace h := zq_nx1 (q := 18) h rfl
  refine ⟨zq_k_n 80 h rfl (zq_o_80 _), ?_⟩
  replace h := zq_nx1 (q := 19) h rfl
  refine ⟨zq_k_iinc 5 1 h rfl (zq_o_132 _) (by decide +kernel) (by decide +kernel), ?_⟩
  replace h := zq_nx3 (q := 22) h rfl
  refine ⟨zq_k_s2 167 (fun z => .goto z) (-19) h rfl (zq_o_167 _) (by decide +kernel), ?_⟩
  replace h := zq_nx3 (q := 25) h rfl
  refine ⟨zq_k_n 3 h rfl (zq_o_3 _), ?_⟩
  replace h := zq_nx1 (q := 26) h rfl
  refine ⟨zq_k_u1 54 (fun z => .istore z) 5 h rfl (zq_o_54 _) (by decide +kernel), ?_⟩
  replace h := zq_nx2 (q := 28) h rfl
  refine ⟨zq_k_u1 21 (fun z => .iload z) 5 h rfl (zq_o_21 _) (by decide +kernel), ?_⟩
  replace h := zq_nx2 (q := 30) h rfl
  refine ⟨zq_k_n 42 h rfl (zq_o_42 _), ?_⟩
  replace h := zq_nx1 (q := 31) h rfl
  refine ⟨zq_k_n 3 h rfl (zq_o_3 _), ?_⟩
  replace h := zq_nx1 (q := 32) h rfl
  refine ⟨zq_k_n 27 h rfl (zq_o_27 _), ?_⟩
  replace h := zq_nx1 (q := 33) h rfl
  refine ⟨zq_k_u2 182 (fun z => .invokevirtual z) 294 h rfl (zq_o_182 _) (by decide +kernel), ?_⟩
  replace h := zq_nx3 (q := 36) h rfl
  refine ⟨zq_k_s2 163 (fun z => .if_icmp .gt z) 133 h rfl (zq_o_163 _) (by decide +kernel), ?_⟩
  replace h := zq_nx3 (q := 39) h rfl
  refine ⟨zq_k_n 3 h rfl (zq_o_3 _), ?_⟩
  replace h := zq_nx1 (q := 40) h rfl
  refine ⟨zq_k_u1 54 (fun z => .istore z) 6 h rfl (zq_o_54 _) (by decide +kernel), ?_⟩
  replace h := zq_nx2 (q := 42) h rfl
  refine ⟨zq_k_u1 21 (fun z => .iload z) 6 h rfl (zq_o_21 _) (by decide +kernel), ?_⟩
  replace h := zq_nx2 (q := 44) h rfl
  exact zq_k_n 42 h rfl (zq_o_42 _)
set_option maxRecDepth 100000 in
theorem dd_M_addsLaw_45 : (decode prog_10_method_76_code 45 = .ok (.iconst 1, 1)) ∧ (decode prog_10_method_76_code 46 = .ok (.iload_n 1, 1)) ∧ (decode prog_10_method_76_code 47 = .ok (.invokevirtual 294, 3)) ∧ (decode prog_10_method_76_code 50 = .ok (.if_icmp .gt 113, 3)) ∧ (decode prog_10_method_76_code 53 = .ok (.iconst 0, 1)) ∧ (decode prog_10_method_76_code 54 = .ok (.istore 7, 2)) ∧ (decode prog_10_method_76_code 56 = .ok (.iload 7, 2)) ∧ (decode prog_10_method_76_code 58 = .ok (.aload_n 0, 1)) ∧ (decode prog_10_method_76_code 59 = .ok (.iconst 2, 1)) ∧ (decode prog_10_method_76_code 60 = .ok (.iload_n 1, 1)) ∧ (decode prog_10_method_76_code 61 = .ok (.invokevirtual 294, 3)) ∧ (decode prog_10_method_76_code 64 = .ok (.if_icmp .gt 93, 3)) ∧ (decode prog_10_method_76_code 67 = .ok (.aload_n 0, 1)) ∧ (decode prog_10_method_76_code 68 = .ok (.iconst 1, 1)) ∧ (decode prog_10_method_76_code 69 = .ok (.iload_n 1, 1)) ∧ (decode prog_10_method_76_code 70 = .ok (.iload 5, 2)) ∧ (decode prog_10_method_76_code 72 = .ok (.iload 6, 2)) ∧ (decode prog_10_method_76_code 74 = .ok (.iadd, 1)) ∧ (decode prog_10_method_76_code 75 = .ok (.iload 7, 2)) ∧ (decode prog_10_method_76_code 77 = .ok (.iadd, 1)) ∧ (decode prog_10_method_76_code 78 = .ok (.invokevirtual 297, 3)) ∧ (decode prog_10_method_76_code 81 = .ok (.ifCond .eq 52, 3)) ∧ (decode prog_10_method_76_code 84 = .ok (.aload_n 0, 1)) ∧ (decode prog_10_method_76_code 85 = .ok (.iconst 0, 1)) := by
  have h : List.drop 45 prog_10_method_76_code.data.toList = 0x04 :: _ := rfl
  refine ⟨zq_k_n 4 h rfl (zq_o_4 _), ?_⟩
  replace h := zq_nx1 (q := 46) h rfl
  refine ⟨zq_k_n 27 h rfl (zq_o_27 _), ?_⟩
  replace h := zq_nx1 (q := 47) h rfl
  refine ⟨zq_k_u2 182 (fun z => .invokevirtual z) 294 h rfl (zq_o_182 _) (by decide +kernel), ?_⟩
  replace h := zq_nx3 (q := 50) h rfl
  refine ⟨zq_k_s2 163 (fun z => .if_icmp .gt z) 113 h rfl (zq_o_163 _) (by decide +kernel), ?_⟩
  replace h := zq_nx3 (q := 53) h rfl
  refine ⟨zq_k_n 3 h rfl (zq_o_3 _), ?_⟩
  replace h := zq_nx1 (q := 54) h rfl
  refine ⟨zq_k_u1 54 (fun z => .istore z) 7 h rfl (zq_o_54 _) (by decide +kernel), ?_⟩
  replace h := zq_nx2 (q := 56) h rfl
  refine ⟨zq_k_u1 21 (fun z => .iload z) 7 h rfl (zq_o_21 _) (by decide +kernel), ?_⟩
  replace h := zq_nx2 (q := 58) h rfl
  refine ⟨zq_k_n 42 h rfl (zq_o_42 _), ?_⟩
  replace h := zq_nx1 (q := 59) h rfl
  refine ⟨zq_k_n 5 h rfl (zq_o_5 _), ?_⟩
  replace h := zq_nx1 (q := 60) h rfl
  refine ⟨zq_k_n 27 h rfl (zq_o_27 _), ?_⟩
  replace h := zq_nx1 (q := 61) h rfl
  refine ⟨zq_k_u2 182 (fun z => .invokevirtual z) 294 h rfl (zq_o_182 _) (by decide +kernel), ?_⟩
  replace h := zq_nx3 (q := 64) h rfl
  refine ⟨zq_k_s2 163 (fun z => .if_icmp .gt z) 93 h rfl (zq_o_163 _) (by decide +kernel), ?_⟩
  replace h := zq_nx3 (q := 67) h rfl
  refine ⟨zq_k_n 42 h rfl (zq_o_42 _), ?_⟩
  replace h := zq_nx1 (q := 68) h rfl
  refine ⟨zq_k_n 4 h rfl (zq_o_4 _), ?_⟩
  replace h := zq_nx1 (q := 69) h rfl
  refine ⟨zq_k_n 27 h rfl (zq_o_27 _), ?_⟩
  replace h := zq_nx1 (q := 70) h rfl
  refine ⟨zq_k_u1 21 (fun z => .iload z) 5 h rfl (zq_o_21 _) (by decide +kernel), ?_⟩
  replace h := zq_nx2 (q := 72) h rfl
  refine ⟨zq_k_u1 21 (fun z => .iload z) 6 h rfl (zq_o_21 _) (by decide +kernel), ?_⟩
  replace h := zq_nx2 (q := 74) h rfl
  refine ⟨zq_k_n 96 h rfl (zq_o_96 _), ?_⟩
  replace h := zq_nx1 (q := 75) h rfl
  refine ⟨zq_k_u1 21 (fun z => .iload z) 7 h rfl (zq_o_21 _) (by decide +kernel), ?_⟩
  replace h := zq_nx2 (q := 77) h rfl
  refine ⟨zq_k_n 96 h rfl (zq_o_96 _), ?_⟩
  replace h := zq_nx1 (q := 78) h rfl
  refine ⟨zq_k_u2 182 (fun z => .invokevirtual z) 297 h rfl (zq_o_182 _) (by decide +kernel), ?_⟩
  replace h := zq_nx3 (q := 81) h rfl
  refine ⟨zq_k_s2 153 (fun z => .ifCond .eq z) 52 h rfl (zq_o_153 _) (by decide +kernel), ?_⟩
  replace h := zq_nx3 (q := 84) h rfl
  refine ⟨zq_k_n 42 h rfl (zq_o_42 _), ?_⟩
  replace h := zq_nx1 (q := 85) h rfl
  exact zq_k_n 3 h rfl (zq_o_3 _)
set_option maxRecDepth 100000 in
theorem dd_M_addsLaw_86 : (decode prog_10_method_76_code 86 = .ok (.iload_n 1, 1)) ∧ (decode prog_10_method_76_code 87 = .ok (.iload 5, 2)) ∧ (decode prog_10_method_76_code 89 = .ok (.iload_n 2, 1)) ∧ (decode prog_10_method_76_code 90 = .ok (.iload_n 3, 1)) ∧ (decode prog_10_method_76_code 91 = .ok (.iload 4, 2)) ∧ (decode prog_10_method_76_code 93 = .ok (.invokevirtual 301, 3)) ∧ (decode prog_10_method_76_code 96 = .ok (.ifCond .eq 37, 3)) ∧ (decode prog_10_method_76_code 99 = .ok (.aload_n 0, 1)) ∧ (decode prog_10_method_76_code 100 = .ok (.iconst 1, 1)) ∧ (decode prog_10_method_76_code 101 = .ok (.iload_n 1, 1)) ∧ (decode prog_10_method_76_code 102 = .ok (.iload 6, 2)) ∧ (decode prog_10_method_76_code 104 = .ok (.iload_n 2, 1)) ∧ (decode prog_10_method_76_code 105 = .ok (.iload_n 3, 1)) ∧ (decode prog_10_method_76_code 106 = .ok (.iload 4, 2)) ∧ (decode prog_10_method_76_code 108 = .ok (.invokevirtual 301, 3)) ∧ (decode prog_10_method_76_code 111 = .ok (.ifCond .eq 22, 3)) ∧ (decode prog_10_method_76_code 114 = .ok (.aload_n 0, 1)) ∧ (decode prog_10_method_76_code 115 = .ok (.iconst 2, 1)) ∧ (decode prog_10_method_76_code 116 = .ok (.iload_n 1, 1)) ∧ (decode prog_10_method_76_code 117 = .ok (.iload 7, 2)) ∧ (decode prog_10_method_76_code 119 = .ok (.iload_n 2, 1)) ∧ (decode prog_10_method_76_code 120 = .ok (.iload_n 3, 1)) ∧ (decode prog_10_method_76_code 121 = .ok (.iload 4, 2)) ∧ (decode prog_10_method_76_code 123 = .ok (.invokevirtual 301, 3)) := by
  have h : List.drop 86 prog_10_method_76_code.data.toList = 0x1b :: _ := rfl
  refine ⟨zq_k_n 27 h rfl (zq_o_27 _), ?_⟩
  replace h := zq_nx1 (q := 87) h rfl
  refine ⟨zq_k_u1 21 (fun z => .iload z) 5 h rfl (zq_o_21 _) (by decide +kernel), ?_⟩
  replace h := zq_nx2 (q := 89) h rfl
  refine ⟨zq_k_n 28 h rfl (zq_o_28 _), ?_⟩
  replace h := zq_nx1 (q := 90) h rfl
  refine ⟨zq_k_n 29 h rfl (zq_o_29 _), ?_⟩
  replace h := zq_nx1 (q := 91) h rfl
  refine ⟨zq_k_u1 21 (fun z => .iload z) 4 h rfl (zq_o_21 _) (by decide +kernel), ?_⟩
  replace h := zq_nx2 (q := 93) h rfl
  refine ⟨zq_k_u2 182 (fun z => .invokevirtual z) 301 h rfl (zq_o_182 _) (by decide +kernel), ?_⟩
  replace h := zq_nx3 (q := 96) h rfl
  refine ⟨zq_k_s2 153 (fun z => .ifCond .eq z) 37 h rfl (zq_o_153 _) (by decide +kernel), ?_⟩
  replace h := zq_nx3 (q := 99) h rfl
  refine ⟨zq_k_n 42 h rfl (zq_o_42 _), ?_⟩
  replace h := zq_nx1 (q := 100) h rfl
  refine ⟨zq_k_n 4 h rfl (zq_o_4 _), ?_⟩
  replace h := zq_nx1 (q := 101) h rfl
  refine ⟨zq_k_n 27 h rfl (zq_o_27 _), ?_⟩
  replace h := zq_nx1 (q := 102) h rfl
  refine ⟨zq_k_u1 21 (fun z => .iload z) 6 h rfl (zq_o_21 _) (by decide +kernel), ?_⟩
  replace h := zq_nx2 (q := 104) h rfl
  refine ⟨zq_k_n 28 h rfl (zq_o_28 _), ?_⟩
  replace h := zq_nx1 (q := 105) h rfl
  refine ⟨zq_k_n 29 h rfl (zq_o_29 _), ?_⟩
  replace h := zq_nx1 (q := 106) h rfl
  refine ⟨zq_k_u1 21 (fun z => .iload z) 4 h rfl (zq_o_21 _) (by decide +kernel), ?_⟩
  replace h := zq_nx2 (q := 108) h rfl
  refine ⟨zq_k_u2 182 (fun z => .invokevirtual z) 301 h rfl (zq_o_182 _) (by decide +kernel), ?_⟩
  replace h := zq_nx3 (q := 111) h rfl
  refine ⟨zq_k_s2 153 (fun z => .ifCond .eq z) 22 h rfl (zq_o_153 _) (by decide +kernel), ?_⟩
  replace h := zq_nx3 (q := 114) h rfl
  refine ⟨zq_k_n 42 h rfl (zq_o_42 _), ?_⟩
  replace h := zq_nx1 (q := 115) h rfl
  refine ⟨zq_k_n 5 h rfl (zq_o_5 _), ?_⟩
  replace h := zq_nx1 (q := 116) h rfl
  refine ⟨zq_k_n 27 h rfl (zq_o_27 _), ?_⟩
  replace h := zq_nx1 (q := 117) h rfl
  refine ⟨zq_k_u1 21 (fun z => .iload z) 7 h rfl (zq_o_21 _) (by decide +kernel), ?_⟩
  replace h := zq_nx2 (q := 119) h rfl
  refine ⟨zq_k_n 28 h rfl (zq_o_28 _), ?_⟩
  replace h := zq_nx1 (q := 120) h rfl
  refine ⟨zq_k_n 29 h rfl (zq_o_29 _), ?_⟩
  replace h := zq_nx1 (q := 121) h rfl
  refine ⟨zq_k_u1 21 (fun z => .iload z) 4 h rfl (zq_o_21 _) (by decide +kernel), ?_⟩
  replace h := zq_nx2 (q := 123) h rfl
  exact zq_k_u2 182 (fun z => .invokevirtual z) 301 h rfl (zq_o_182 _) (by decide +kernel)
set_option maxRecDepth 100000 in
theorem dd_M_addsLaw_126 : (decode prog_10_method_76_code 126 = .ok (.ifCond .eq 7, 3)) ∧ (decode prog_10_method_76_code 129 = .ok (.iconst 1, 1)) ∧ (decode prog_10_method_76_code 130 = .ok (.goto 4, 3)) ∧ (decode prog_10_method_76_code 133 = .ok (.iconst 0, 1)) ∧ (decode prog_10_method_76_code 134 = .ok (.istore 8, 2)) ∧ (decode prog_10_method_76_code 136 = .ok (.iload 8, 2)) ∧ (decode prog_10_method_76_code 138 = .ok (.ifCond .eq 13, 3)) ∧ (decode prog_10_method_76_code 141 = .ok (.aload_n 0, 1)) ∧ (decode prog_10_method_76_code 142 = .ok (.iload 5, 2)) ∧ (decode prog_10_method_76_code 144 = .ok (.iload 6, 2)) ∧ (decode prog_10_method_76_code 146 = .ok (.iload 7, 2)) ∧ (decode prog_10_method_76_code 148 = .ok (.invokevirtual 305, 3)) ∧ (decode prog_10_method_76_code 151 = .ok (.iinc 7 1, 3)) ∧ (decode prog_10_method_76_code 154 = .ok (.goto (-98), 3)) ∧ (decode prog_10_method_76_code 157 = .ok (.iinc 6 1, 3)) ∧ (decode prog_10_method_76_code 160 = .ok (.goto (-118), 3)) ∧ (decode prog_10_method_76_code 163 = .ok (.iinc 5 1, 3)) ∧ (decode prog_10_method_76_code 166 = .ok (.goto (-138), 3)) ∧ (decode prog_10_method_76_code 169 = .ok (.iconst 0, 1)) ∧ (decode prog_10_method_76_code 170 = .ok (.istore 5, 2)) ∧ (decode prog_10_method_76_code 172 = .ok (.iload 5, 2)) ∧ (decode prog_10_method_76_code 174 = .ok (.sipush 216, 3)) ∧ (decode prog_10_method_76_code 177 = .ok (.if_icmp .ge 23, 3)) ∧ (decode prog_10_method_76_code 180 = .ok (.aload_n 0, 1)) := by
  have h : List.drop 126 prog_10_method_76_code.data.toList = 0x99 :: _ := rfl
  refine ⟨zq_k_s2 153 (fun z => .ifCond .eq z) 7 h rfl (zq_o_153 _) (by decide +kernel), ?_⟩
  replace h := zq_nx3 (q := 129) h rfl
  refine ⟨zq_k_n 4 h rfl (zq_o_4 _), ?_⟩
  replace h := zq_nx1 (q := 130) h rfl
  refine ⟨zq_k_s2 167 (fun z => .goto z) 4 h rfl (zq_o_167 _) (by decide +kernel), ?_⟩
  replace h := zq_nx3 (q := 133) h rfl
  refine ⟨zq_k_n 3 h rfl (zq_o_3 _), ?_⟩
  replace h := zq_nx1 (q := 134) h rfl
  refine ⟨zq_k_u1 54 (fun z => .istore z) 8 h rfl (zq_o_54 _) (by decide +kernel), ?_⟩
  replace h := zq_nx2 (q := 136) h rfl
  refine ⟨zq_k_u1 21 (fun z => .iload z) 8 h rfl (zq_o_21 _) (by decide +kernel), ?_⟩
  replace h := zq_nx2 (q := 138) h rfl
  refine ⟨zq_k_s2 153 (fun z => .ifCond .eq z) 13 h rfl (zq_o_153 _) (by decide +kernel), ?_⟩
  replace h := zq_nx3 (q := 141) h rfl
  refine ⟨zq_k_n 42 h rfl (zq_o_42 _), ?_⟩
  replace h := zq_nx1 (q := 142) h rfl
  refine ⟨zq_k_u1 21 (fun z => .iload z) 5 h rfl (zq_o_21 _) (by decide +kernel), ?_⟩
  replace h := zq_nx2 (q := 144) h rfl
  refine ⟨zq_k_u1 21 (fun z => .iload z) 6 h rfl (zq_o_21 _) (by decide +kernel), ?_⟩
  replace h := zq_nx2 (q := 146) h rfl
  refine ⟨zq_k_u1 21 (fun z => .iload z) 7 h rfl (zq_o_21 _) (by decide +kernel), ?_⟩
  replace h := zq_nx2 (q := 148) h rfl
  refine ⟨zq_k_u2 182 (fun z => .invokevirtual z) 305 h rfl (zq_o_182 _) (by decide +kernel), ?_⟩
  replace h := zq_nx3 (q := 151) h rfl
  refine ⟨zq_k_iinc 7 1 h rfl (zq_o_132 _) (by decide +kernel) (by decide +kernel), ?_⟩
  replace h := zq_nx3 (q := 154) h rfl
  refine ⟨zq_k_s2 167 (fun z => .goto z) (-98) h rfl (zq_o_167 _) (by decide +kernel), ?_⟩
  replace h := zq_nx3 (q := 157) h rfl
  refine ⟨zq_k_iinc 6 1 h rfl (zq_o_132 _) (by decide +kernel) (by decide +kernel), ?_⟩
  replace h := zq_nx3 (q := 160) h rfl
  refine ⟨zq_k_s2 167 (fun z => .goto z) (-118) h rfl (zq_o_167 _) (by decide +kernel), ?_⟩
  replace h := zq_nx3 (q := 163) h rfl
  refine ⟨zq_k_iinc 5 1 h rfl (zq_o_132 _) (by decide +kernel) (by decide +kernel), ?_⟩
  replace h := zq_nx3 (q := 166) h rfl
  refine ⟨zq_k_s2 167 (fun z => .goto z) (-138) h rfl (zq_o_167 _) (by decide +kernel), ?_⟩
  replace h := zq_nx3 (q := 169) h rfl
  refine ⟨zq_k_n 3 h rfl (zq_o_3 _), ?_⟩
  replace h := zq_nx1 (q := 170) h rfl
  refine ⟨zq_k_u1 54 (fun z => .istore z) 5 h rfl (zq_o_54 _) (by decide +kernel), ?_⟩
  replace h := zq_nx2 (q := 172) h rfl
  refine ⟨zq_k_u1 21 (fun z => .iload z) 5 h rfl (zq_o_21 _) (by decide +kernel), ?_⟩
  replace h := zq_nx2 (q := 174) h rfl
  refine ⟨zq_k_s2 17 (fun z => .sipush z) 216 h rfl (zq_o_17 _) (by decide +kernel), ?_⟩
  replace h := zq_nx3 (q := 177) h rfl
  refine ⟨zq_k_s2 162 (fun z => .if_icmp .ge z) 23 h rfl (zq_o_162 _) (by decide +kernel), ?_⟩
  replace h := zq_nx3 (q := 180) h rfl
  exact zq_k_n 42 h rfl (zq_o_42 _)
set_option maxRecDepth 100000 in
theorem dd_M_addsLaw_181 : (decode prog_10_method_76_code 181 = .ok (.getfield 72, 3)) ∧ (decode prog_10_method_76_code 184 = .ok (.iload 5, 2)) ∧ (decode prog_10_method_76_code 186 = .ok (.aload_n 0, 1)) ∧ (decode prog_10_method_76_code 187 = .ok (.getfield 75, 3)) ∧ (decode prog_10_method_76_code 190 = .ok (.iload 5, 2)) ∧ (decode prog_10_method_76_code 192 = .ok (.laload, 1)) ∧ (decode prog_10_method_76_code 193 = .ok (.lastore, 1)) ∧ (decode prog_10_method_76_code 194 = .ok (.iinc 5 1, 3)) ∧ (decode prog_10_method_76_code 197 = .ok (.goto (-25), 3)) ∧ (decode prog_10_method_76_code 200 = .ok (.return_, 1)) := by
  have h : List.drop 181 prog_10_method_76_code.data.toList = 0xb4 :: _ := rfl
  refine ⟨zq_k_u2 180 (fun z => .getfield z) 72 h rfl (zq_o_180 _) (by decide +kernel), ?_⟩
  replace h := zq_nx3 (q := 184) h rfl
  refine ⟨zq_k_u1 21 (fun z => .iload z) 5 h rfl (zq_o_21 _) (by decide +kernel), ?_⟩
  replace h := zq_nx2 (q := 186) h rfl
  refine ⟨zq_k_n 42 h rfl (zq_o_42 _), ?_⟩
  replace h := zq_nx1 (q := 187) h rfl
  refine ⟨zq_k_u2 180 (fun z => .getfield z) 75 h rfl (zq_o_180 _) (by decide +kernel), ?_⟩
  replace h := zq_nx3 (q := 190) h rfl
  refine ⟨zq_k_u1 21 (fun z => .iload z) 5 h rfl (zq_o_21 _) (by decide +kernel), ?_⟩
  replace h := zq_nx2 (q := 192) h rfl
  refine ⟨zq_k_n 47 h rfl (zq_o_47 _), ?_⟩
  replace h := zq_nx1 (q := 193) h rfl
  refine ⟨zq_k_n 80 h rfl (zq_o_80 _), ?_⟩
  replace h := zq_nx1 (q := 194) h rfl
  refine ⟨zq_k_iinc 5 1 h rfl (zq_o_132 _) (by decide +kernel) (by decide +kernel), ?_⟩
  replace h := zq_nx3 (q := 197) h rfl
  refine ⟨zq_k_s2 167 (fun z => .goto z) (-25) h rfl (zq_o_167 _) (by decide +kernel), ?_⟩
  replace h := zq_nx3 (q := 200) h rfl
  exact zq_k_n 177 h rfl (zq_o_177 _)
def f_M_addsLaw_172b (rec172 : Nat → Int32 → mH → Option mH) (b0 : Nat) (b5 : Int32) (h : mH) : Option mH :=
  if (216 : Int32) ≤ b5 then
    some h
  else
    bd1 (gR h b0 8 33) fun x53 =>
    bd1 (gR h b0 8 34) fun x55 =>
    bd1 (aL h x55 b5) fun x57 =>
    bd1 (sL h x53 b5 x57) fun h59 =>
    rec172 b0 (b5 + (1 : Int32)) h59
set_option maxRecDepth 20000 in
theorem t_M_addsLaw_172b {sc : Nat × (Nat → Int32)} (rec172 : Nat → Int32 → mH → Option mH) (hrec172 : ∀ (b0 : Nat) (b5 : Int32) (h : mH) (h' : mH), rec172 b0 b5 h = some h' → G sc y_M_addsLaw prog_10_method_76_code 9 none 1 27 172 [(0, .ref b0), (5, .int b5)] [] h none h') (b0 : Nat) (b5 : Int32) (h : mH) (h' : mH) (hf : f_M_addsLaw_172b rec172 b0 b5 h = some h') : G sc y_M_addsLaw prog_10_method_76_code 9 none 1 27 172 [(0, .ref b0), (5, .int b5)] [] h none h' := by
  unfold f_M_addsLaw_172b at hf
  refine g_iload (pc := 172) 1 dd_M_addsLaw_126.2.2.2.2.2.2.2.2.2.2.2.2.2.2.2.2.2.2.2.2.1 rfl ?_
  refine g_sipush (pc := 174) (216 : Int32) dd_M_addsLaw_126.2.2.2.2.2.2.2.2.2.2.2.2.2.2.2.2.2.2.2.2.2.1 (by decide) ?_
  refine g_icmpge (pc := 177) 200 dd_M_addsLaw_126.2.2.2.2.2.2.2.2.2.2.2.2.2.2.2.2.2.2.2.2.2.2.1 (by decide) (fun c61 => ?_) (fun c61 => ?_)
  · replace hf := (if_pos c61).symm.trans hf
    obtain rfl := ret1 hf
    exact g_vret (pc := 200) rfl dd_M_addsLaw_181.2.2.2.2.2.2.2.2.2
  · replace hf := (if_neg c61).symm.trans hf
    refine g_aload_n (pc := 180) 0 dd_M_addsLaw_126.2.2.2.2.2.2.2.2.2.2.2.2.2.2.2.2.2.2.2.2.2.2.2 rfl rfl ?_
    obtain ⟨x53, e54, hf⟩ := bd1_e hf
    refine g_get (pc := 181) (ci := 8) (kk := 33) dd_M_addsLaw_181.1 rfl in_M (by decide) wd_971 (gR_spec e54) ?_
    refine g_iload (pc := 184) 1 dd_M_addsLaw_181.2.1 rfl ?_
    refine g_aload_n (pc := 186) 0 dd_M_addsLaw_181.2.2.1 rfl rfl ?_
    obtain ⟨x55, e56, hf⟩ := bd1_e hf
    refine g_get (pc := 187) (ci := 8) (kk := 34) dd_M_addsLaw_181.2.2.2.1 rfl in_M (by decide) wd_972 (gR_spec e56) ?_
    refine g_iload (pc := 190) 1 dd_M_addsLaw_181.2.2.2.2.1 rfl ?_
    obtain ⟨x57, e58, hf⟩ := bd1_e hf
    refine g_lald (pc := 192) dd_M_addsLaw_181.2.2.2.2.2.1 e58 ?_
    obtain ⟨h59, e60, hf⟩ := bd1_e hf
    refine g_last (pc := 193) dd_M_addsLaw_181.2.2.2.2.2.2.1 e60 ?_
    refine g_iinc (pc := 194) 1 (b5 + (1 : Int32)) [(5, .int (b5 + (1 : Int32))), (0, .ref b0)] dd_M_addsLaw_181.2.2.2.2.2.2.2.1 rfl rfl (Nat.le_of_ble_eq_true rfl) rfl ?_
    refine g_goto (pc := 197) 172 dd_M_addsLaw_181.2.2.2.2.2.2.2.2.1 (by decide) ?_
    refine g_lv [1, 0] rfl ?_
    exact hrec172 _ _ _ _  hf
def f_M_addsLaw_172  : Nat → Nat → Int32 → mH → Option mH
  | 0 => fun _ _ _ => none
  | n + 1 => f_M_addsLaw_172b  (f_M_addsLaw_172  n)
theorem t_M_addsLaw_172 {sc : Nat × (Nat → Int32)}  : ∀ (n : Nat) (b0 : Nat) (b5 : Int32) (h : mH) (h' : mH) (hf : f_M_addsLaw_172  n b0 b5 h = some h'), G sc y_M_addsLaw prog_10_method_76_code 9 none 1 27 172 [(0, .ref b0), (5, .int b5)] [] h none h'
  | 0, _, _, _, _, hf => by cases hf
  | n + 1, _, _, _, _, hf => t_M_addsLaw_172b  (f_M_addsLaw_172  n) (t_M_addsLaw_172  n) _ _ _ _ hf
def f_M_addsLaw_151 (rec28 : Nat → Int32 → Int32 → Int32 → Int32 → Int32 → mH → Option mH) (rec42 : Nat → Int32 → Int32 → Int32 → Int32 → Int32 → Int32 → mH → Option mH) (rec56 : Nat → Int32 → Int32 → Int32 → Int32 → Int32 → Int32 → Int32 → mH → Option mH) (b0 : Nat) (b1 : Int32) (b2 : Int32) (b3 : Int32) (b4 : Int32) (b5 : Int32) (b6 : Int32) (b7 : Int32) (h : mH) : Option mH :=
  rec56 b0 b1 b2 b3 b4 b5 b6 (b7 + (1 : Int32)) h
set_option maxRecDepth 20000 in
theorem t_M_addsLaw_151 {sc : Nat × (Nat → Int32)} (rec28 : Nat → Int32 → Int32 → Int32 → Int32 → Int32 → mH → Option mH) (hrec28 : ∀ (b0 : Nat) (b1 : Int32) (b2 : Int32) (b3 : Int32) (b4 : Int32) (b5 : Int32) (h : mH) (h' : mH), rec28 b0 b1 b2 b3 b4 b5 h = some h' → G sc y_M_addsLaw prog_10_method_76_code 9 none 1 27 28 [(0, .ref b0), (1, .int b1), (2, .int b2), (3, .int b3), (4, .int b4), (5, .int b5)] [] h none h') (rec42 : Nat → Int32 → Int32 → Int32 → Int32 → Int32 → Int32 → mH → Option mH) (hrec42 : ∀ (b0 : Nat) (b1 : Int32) (b2 : Int32) (b3 : Int32) (b4 : Int32) (b5 : Int32) (b6 : Int32) (h : mH) (h' : mH), rec42 b0 b1 b2 b3 b4 b5 b6 h = some h' → G sc y_M_addsLaw prog_10_method_76_code 9 none 1 27 42 [(0, .ref b0), (1, .int b1), (2, .int b2), (3, .int b3), (4, .int b4), (5, .int b5), (6, .int b6)] [] h none h') (rec56 : Nat → Int32 → Int32 → Int32 → Int32 → Int32 → Int32 → Int32 → mH → Option mH) (hrec56 : ∀ (b0 : Nat) (b1 : Int32) (b2 : Int32) (b3 : Int32) (b4 : Int32) (b5 : Int32) (b6 : Int32) (b7 : Int32) (h : mH) (h' : mH), rec56 b0 b1 b2 b3 b4 b5 b6 b7 h = some h' → G sc y_M_addsLaw prog_10_method_76_code 9 none 1 27 56 [(0, .ref b0), (1, .int b1), (2, .int b2), (3, .int b3), (4, .int b4), (5, .int b5), (6, .int b6), (7, .int b7)] [] h none h') (b0 : Nat) (b1 : Int32) (b2 : Int32) (b3 : Int32) (b4 : Int32) (b5 : Int32) (b6 : Int32) (b7 : Int32) (h : mH) (h' : mH) (hf : f_M_addsLaw_151 rec28 rec42 rec56 b0 b1 b2 b3 b4 b5 b6 b7 h = some h') : G sc y_M_addsLaw prog_10_method_76_code 9 none 1 27 151 [(0, .ref b0), (1, .int b1), (2, .int b2), (3, .int b3), (4, .int b4), (5, .int b5), (6, .int b6), (7, .int b7)] [] h none h' := by
  unfold f_M_addsLaw_151 at hf
  refine g_iinc (pc := 151) 7 (b7 + (1 : Int32)) [(7, .int (b7 + (1 : Int32))), (0, .ref b0), (1, .int b1), (2, .int b2), (3, .int b3), (4, .int b4), (5, .int b5), (6, .int b6)] dd_M_addsLaw_126.2.2.2.2.2.2.2.2.2.2.2.2.1 rfl rfl (Nat.le_of_ble_eq_true rfl) rfl ?_
  refine g_goto (pc := 154) 56 dd_M_addsLaw_126.2.2.2.2.2.2.2.2.2.2.2.2.2.1 (by decide) ?_
  refine g_lv [1, 2, 3, 4, 5, 6, 7, 0] rfl ?_
  exact hrec56 _ _ _ _ _ _ _ _ _ _  hf
def f_M_addsLaw_134 (rec28 : Nat → Int32 → Int32 → Int32 → Int32 → Int32 → mH → Option mH) (rec42 : Nat → Int32 → Int32 → Int32 → Int32 → Int32 → Int32 → mH → Option mH) (rec56 : Nat → Int32 → Int32 → Int32 → Int32 → Int32 → Int32 → Int32 → mH → Option mH) (b0 : Nat) (b1 : Int32) (b2 : Int32) (b3 : Int32) (b4 : Int32) (b5 : Int32) (b6 : Int32) (b7 : Int32) (s0 : Int32) (h : mH) : Option mH :=
  if s0 = 0 then
    f_M_addsLaw_151 rec28 rec42 rec56 b0 b1 b2 b3 b4 b5 b6 b7 h
  else
    bd1 (kC h b0 8) fun _ =>
    bd1 (f_M_addsTables b0 b5 b6 b7 h) fun h50 =>
    f_M_addsLaw_151 rec28 rec42 rec56 b0 b1 b2 b3 b4 b5 b6 b7 h50
set_option maxRecDepth 20000 in
theorem t_M_addsLaw_134 {sc : Nat × (Nat → Int32)} (rec28 : Nat → Int32 → Int32 → Int32 → Int32 → Int32 → mH → Option mH) (hrec28 : ∀ (b0 : Nat) (b1 : Int32) (b2 : Int32) (b3 : Int32) (b4 : Int32) (b5 : Int32) (h : mH) (h' : mH), rec28 b0 b1 b2 b3 b4 b5 h = some h' → G sc y_M_addsLaw prog_10_method_76_code 9 none 1 27 28 [(0, .ref b0), (1, .int b1), (2, .int b2), (3, .int b3), (4, .int b4), (5, .int b5)] [] h none h') (rec42 : Nat → Int32 → Int32 → Int32 → Int32 → Int32 → Int32 → mH → Option mH) (hrec42 : ∀ (b0 : Nat) (b1 : Int32) (b2 : Int32) (b3 : Int32) (b4 : Int32) (b5 : Int32) (b6 : Int32) (h : mH) (h' : mH), rec42 b0 b1 b2 b3 b4 b5 b6 h = some h' → G sc y_M_addsLaw prog_10_method_76_code 9 none 1 27 42 [(0, .ref b0), (1, .int b1), (2, .int b2), (3, .int b3), (4, .int b4), (5, .int b5), (6, .int b6)] [] h none h') (rec56 : Nat → Int32 → Int32 → Int32 → Int32 → Int32 → Int32 → Int32 → mH → Option mH) (hrec56 : ∀ (b0 : Nat) (b1 : Int32) (b2 : Int32) (b3 : Int32) (b4 : Int32) (b5 : Int32) (b6 : Int32) (b7 : Int32) (h : mH) (h' : mH), rec56 b0 b1 b2 b3 b4 b5 b6 b7 h = some h' → G sc y_M_addsLaw prog_10_method_76_code 9 none 1 27 56 [(0, .ref b0), (1, .int b1), (2, .int b2), (3, .int b3), (4, .int b4), (5, .int b5), (6, .int b6), (7, .int b7)] [] h none h') (b0 : Nat) (b1 : Int32) (b2 : Int32) (b3 : Int32) (b4 : Int32) (b5 : Int32) (b6 : Int32) (b7 : Int32) (s0 : Int32) (h : mH) (h' : mH) (hf : f_M_addsLaw_134 rec28 rec42 rec56 b0 b1 b2 b3 b4 b5 b6 b7 s0 h = some h') : G sc y_M_addsLaw prog_10_method_76_code 9 none 1 27 134 [(0, .ref b0), (1, .int b1), (2, .int b2), (3, .int b3), (4, .int b4), (5, .int b5), (6, .int b6), (7, .int b7)] [.int s0] h none h' := by
  unfold f_M_addsLaw_134 at hf
  refine g_istore (pc := 134) [(8, .int s0), (0, .ref b0), (1, .int b1), (2, .int b2), (3, .int b3), (4, .int b4), (5, .int b5), (6, .int b6), (7, .int b7)] dd_M_addsLaw_126.2.2.2.2.1 (Nat.le_of_ble_eq_true rfl) rfl ?_
  refine g_iload (pc := 136) 0 dd_M_addsLaw_126.2.2.2.2.2.1 rfl ?_
  refine g_ifeq (pc := 138) 151 dd_M_addsLaw_126.2.2.2.2.2.2.1 (by decide) (fun c52 => ?_) (fun c52 => ?_)
  · replace hf := (if_pos c52).symm.trans hf
    refine g_lv [1, 2, 3, 4, 5, 6, 7, 8] rfl ?_
    exact t_M_addsLaw_151 rec28 hrec28 rec42 hrec42 rec56 hrec56 _ _ _ _ _ _ _ _ _ _  hf
  · replace hf := (if_neg c52).symm.trans hf
    refine g_aload_n (pc := 141) 1 dd_M_addsLaw_126.2.2.2.2.2.2.2.1 rfl rfl ?_
    refine g_iload (pc := 142) 6 dd_M_addsLaw_126.2.2.2.2.2.2.2.2.1 rfl ?_
    refine g_iload (pc := 144) 7 dd_M_addsLaw_126.2.2.2.2.2.2.2.2.2.1 rfl ?_
    refine g_iload (pc := 146) 8 dd_M_addsLaw_126.2.2.2.2.2.2.2.2.2.2.1 rfl ?_
    obtain ⟨u49, e48, hf⟩ := bd1_e hf
    obtain ⟨h50, e51, hf⟩ := bd1_e hf
    refine g_callV (pc := 148) (ci := 8) [.int b5, .int b6, .int b7] (site_of si_M_addsTables (by decide) (by decide)) wd_1361 wd_1363 wp_72 dd_M_addsLaw_126.2.2.2.2.2.2.2.2.2.2.2.1 rfl e48 (Nat.le_of_ble_eq_true rfl) (fun z => absurd z si_na_M_addsTables) (fun z => absurd z si_na_M_addsTables) (fun z => absurd z si_na_M_addsTables) (c_M_addsTables e51) rfl ?_
    refine g_st [] rfl ?_
    refine g_lv [1, 2, 3, 4, 5, 6, 7, 8] rfl ?_
    exact t_M_addsLaw_151 rec28 hrec28 rec42 hrec42 rec56 hrec56 _ _ _ _ _ _ _ _ _ _  hf
def f_M_addsLaw_133 (rec28 : Nat → Int32 → Int32 → Int32 → Int32 → Int32 → mH → Option mH) (rec42 : Nat → Int32 → Int32 → Int32 → Int32 → Int32 → Int32 → mH → Option mH) (rec56 : Nat → Int32 → Int32 → Int32 → Int32 → Int32 → Int32 → Int32 → mH → Option mH) (b0 : Nat) (b1 : Int32) (b2 : Int32) (b3 : Int32) (b4 : Int32) (b5 : Int32) (b6 : Int32) (b7 : Int32) (h : mH) : Option mH :=
  f_M_addsLaw_134 rec28 rec42 rec56 b0 b1 b2 b3 b4 b5 b6 b7 (0 : Int32) h
set_option maxRecDepth 20000 in
theorem t_M_addsLaw_133 {sc : Nat × (Nat → Int32)} (rec28 : Nat → Int32 → Int32 → Int32 → Int32 → Int32 → mH → Option mH) (hrec28 : ∀ (b0 : Nat) (b1 : Int32) (b2 : Int32) (b3 : Int32) (b4 : Int32) (b5 : Int32) (h : mH) (h' : mH), rec28 b0 b1 b2 b3 b4 b5 h = some h' → G sc y_M_addsLaw prog_10_method_76_code 9 none 1 27 28 [(0, .ref b0), (1, .int b1), (2, .int b2), (3, .int b3), (4, .int b4), (5, .int b5)] [] h none h') (rec42 : Nat → Int32 → Int32 → Int32 → Int32 → Int32 → Int32 → mH → Option mH) (hrec42 : ∀ (b0 : Nat) (b1 : Int32) (b2 : Int32) (b3 : Int32) (b4 : Int32) (b5 : Int32) (b6 : Int32) (h : mH) (h' : mH), rec42 b0 b1 b2 b3 b4 b5 b6 h = some h' → G sc y_M_addsLaw prog_10_method_76_code 9 none 1 27 42 [(0, .ref b0), (1, .int b1), (2, .int b2), (3, .int b3), (4, .int b4), (5, .int b5), (6, .int b6)] [] h none h') (rec56 : Nat → Int32 → Int32 → Int32 → Int32 → Int32 → Int32 → Int32 → mH → Option mH) (hrec56 : ∀ (b0 : Nat) (b1 : Int32) (b2 : Int32) (b3 : Int32) (b4 : Int32) (b5 : Int32) (b6 : Int32) (b7 : Int32) (h : mH) (h' : mH), rec56 b0 b1 b2 b3 b4 b5 b6 b7 h = some h' → G sc y_M_addsLaw prog_10_method_76_code 9 none 1 27 56 [(0, .ref b0), (1, .int b1), (2, .int b2), (3, .int b3), (4, .int b4), (5, .int b5), (6, .int b6), (7, .int b7)] [] h none h') (b0 : Nat) (b1 : Int32) (b2 : Int32) (b3 : Int32) (b4 : Int32) (b5 : Int32) (b6 : Int32) (b7 : Int32) (h : mH) (h' : mH) (hf : f_M_addsLaw_133 rec28 rec42 rec56 b0 b1 b2 b3 b4 b5 b6 b7 h = some h') : G sc y_M_addsLaw prog_10_method_76_code 9 none 1 27 133 [(0, .ref b0), (1, .int b1), (2, .int b2), (3, .int b3), (4, .int b4), (5, .int b5), (6, .int b6), (7, .int b7)] [] h none h' := by
  unfold f_M_addsLaw_133 at hf
  refine g_iconst (pc := 133) (0 : Int32) dd_M_addsLaw_126.2.2.2.1 (by decide) ?_
  refine g_lv [0, 1, 2, 3, 4, 5, 6, 7] rfl ?_
  exact t_M_addsLaw_134 rec28 hrec28 rec42 hrec42 rec56 hrec56 _ _ _ _ _ _ _ _ _ _ _  hf
def f_M_addsLaw_56b (rec28 : Nat → Int32 → Int32 → Int32 → Int32 → Int32 → mH → Option mH) (rec42 : Nat → Int32 → Int32 → Int32 → Int32 → Int32 → Int32 → mH → Option mH) (rec56 : Nat → Int32 → Int32 → Int32 → Int32 → Int32 → Int32 → Int32 → mH → Option mH) (b0 : Nat) (b1 : Int32) (b2 : Int32) (b3 : Int32) (b4 : Int32) (b5 : Int32) (b6 : Int32) (b7 : Int32) (h : mH) : Option mH :=
  bd1 (kC h b0 8) fun _ =>
  bd2 (f_M_mostOf b0 (2 : Int32) b1 h) fun x22 h20 =>
  if x22 < b7 then
    rec42 b0 b1 b2 b3 b4 b5 (b6 + (1 : Int32)) h20
  else
    bd1 (kC h20 b0 8) fun _ =>
    bd2 (f_M_isSo b0 (1 : Int32) b1 ((b5 + b6) + b7) h20) fun x27 h25 =>
    if x27 = 0 then
      f_M_addsLaw_133 rec28 rec42 rec56 b0 b1 b2 b3 b4 b5 b6 b7 h25
    else
      bd1 (kC h25 b0 8) fun _ =>
      bd2 (f_M_isAsked b0 (0 : Int32) b1 b5 b2 b3 b4 h25) fun x32 h30 =>
      if x32 = 0 then
        f_M_addsLaw_133 rec28 rec42 rec56 b0 b1 b2 b3 b4 b5 b6 b7 h30
      else
        bd1 (kC h30 b0 8) fun _ =>
        bd2 (f_M_isAsked b0 (1 : Int32) b1 b6 b2 b3 b4 h30) fun x37 h35 =>
        if x37 = 0 then
          f_M_addsLaw_133 rec28 rec42 rec56 b0 b1 b2 b3 b4 b5 b6 b7 h35
        else
          bd1 (kC h35 b0 8) fun _ =>
          bd2 (f_M_isAsked b0 (2 : Int32) b1 b7 b2 b3 b4 h35) fun x42 h40 =>
          if x42 = 0 then
            f_M_addsLaw_133 rec28 rec42 rec56 b0 b1 b2 b3 b4 b5 b6 b7 h40
          else
            f_M_addsLaw_134 rec28 rec42 rec56 b0 b1 b2 b3 b4 b5 b6 b7 (1 : Int32) h40
set_option maxRecDepth 20000 in
theorem t_M_addsLaw_56b {sc : Nat × (Nat → Int32)} (rec28 : Nat → Int32 → Int32 → Int32 → Int32 → Int32 → mH → Option mH) (hrec28 : ∀ (b0 : Nat) (b1 : Int32) (b2 : Int32) (b3 : Int32) (b4 : Int32) (b5 : Int32) (h : mH) (h' : mH), rec28 b0 b1 b2 b3 b4 b5 h = some h' → G sc y_M_addsLaw prog_10_method_76_code 9 none 1 27 28 [(0, .ref b0), (1, .int b1), (2, .int b2), (3, .int b3), (4, .int b4), (5, .int b5)] [] h none h') (rec42 : Nat → Int32 → Int32 → Int32 → Int32 → Int32 → Int32 → mH → Option mH) (hrec42 : ∀ (b0 : Nat) (b1 : Int32) (b2 : Int32) (b3 : Int32) (b4 : Int32) (b5 : Int32) (b6 : Int32) (h : mH) (h' : mH), rec42 b0 b1 b2 b3 b4 b5 b6 h = some h' → G sc y_M_addsLaw prog_10_method_76_code 9 none 1 27 42 [(0, .ref b0), (1, .int b1), (2, .int b2), (3, .int b3), (4, .int b4), (5, .int b5), (6, .int b6)] [] h none h') (rec56 : Nat → Int32 → Int32 → Int32 → Int32 → Int32 → Int32 → Int32 → mH → Option mH) (hrec56 : ∀ (b0 : Nat) (b1 : Int32) (b2 : Int32) (b3 : Int32) (b4 : Int32) (b5 : Int32) (b6 : Int32) (b7 : Int32) (h : mH) (h' : mH), rec56 b0 b1 b2 b3 b4 b5 b6 b7 h = some h' → G sc y_M_addsLaw prog_10_method_76_code 9 none 1 27 56 [(0, .ref b0), (1, .int b1), (2, .int b2), (3, .int b3), (4, .int b4), (5, .int b5), (6, .int b6), (7, .int b7)] [] h none h') (b0 : Nat) (b1 : Int32) (b2 : Int32) (b3 : Int32) (b4 : Int32) (b5 : Int32) (b6 : Int32) (b7 : Int32) (h : mH) (h' : mH) (hf : f_M_addsLaw_56b rec28 rec42 rec56 b0 b1 b2 b3 b4 b5 b6 b7 h = some h') : G sc y_M_addsLaw prog_10_method_76_code 9 none 1 27 56 [(0, .ref b0), (1, .int b1), (2, .int b2), (3, .int b3), (4, .int b4), (5, .int b5), (6, .int b6), (7, .int b7)] [] h none h' := by
  unfold f_M_addsLaw_56b at hf
  refine g_iload (pc := 56) 7 dd_M_addsLaw_45.2.2.2.2.2.2.1 rfl ?_
  refine g_aload_n (pc := 58) 0 dd_M_addsLaw_45.2.2.2.2.2.2.2.1 rfl rfl ?_
  refine g_iconst (pc := 59) (2 : Int32) dd_M_addsLaw_45.2.2.2.2.2.2.2.2.1 (by decide) ?_
  refine g_iload_n (pc := 60) 1 dd_M_addsLaw_45.2.2.2.2.2.2.2.2.2.1 rfl rfl ?_
  obtain ⟨u19, e18, hf⟩ := bd1_e hf
  obtain ⟨x22, h20, e21, hf⟩ := bd2_e hf
  refine g_callV (pc := 61) (ci := 8) [.int (2 : Int32), .int b1] (site_of si_M_mostOf (by decide) (by decide)) wd_1349 wd_1351 wp_69 dd_M_addsLaw_45.2.2.2.2.2.2.2.2.2.2.1 rfl e18 (Nat.le_of_ble_eq_true rfl) (fun z => absurd z si_na_M_mostOf) (fun z => absurd z si_na_M_mostOf) (fun z => absurd z si_na_M_mostOf) (c_M_mostOf e21) rfl ?_
  refine g_st [.int x22, .int b7] rfl ?_
  refine g_icmpgt (pc := 64) 157 dd_M_addsLaw_45.2.2.2.2.2.2.2.2.2.2.2.1 (by decide) (fun c47 => ?_) (fun c47 => ?_)
  · replace hf := (if_pos c47).symm.trans hf
    refine g_iinc (pc := 157) 6 (b6 + (1 : Int32)) [(6, .int (b6 + (1 : Int32))), (0, .ref b0), (1, .int b1), (2, .int b2), (3, .int b3), (4, .int b4), (5, .int b5), (7, .int b7)] dd_M_addsLaw_126.2.2.2.2.2.2.2.2.2.2.2.2.2.2.1 rfl rfl (Nat.le_of_ble_eq_true rfl) rfl ?_
    refine g_goto (pc := 160) 42 dd_M_addsLaw_126.2.2.2.2.2.2.2.2.2.2.2.2.2.2.2.1 (by decide) ?_
    refine g_lv [1, 2, 3, 4, 5, 6, 0] rfl ?_
    exact hrec42 _ _ _ _ _ _ _ _ _  hf
  · replace hf := (if_neg c47).symm.trans hf
    refine g_aload_n (pc := 67) 0 dd_M_addsLaw_45.2.2.2.2.2.2.2.2.2.2.2.2.1 rfl rfl ?_
    refine g_iconst (pc := 68) (1 : Int32) dd_M_addsLaw_45.2.2.2.2.2.2.2.2.2.2.2.2.2.1 (by decide) ?_
    refine g_iload_n (pc := 69) 1 dd_M_addsLaw_45.2.2.2.2.2.2.2.2.2.2.2.2.2.2.1 rfl rfl ?_
    refine g_iload (pc := 70) 5 dd_M_addsLaw_45.2.2.2.2.2.2.2.2.2.2.2.2.2.2.2.1 rfl ?_
    refine g_iload (pc := 72) 6 dd_M_addsLaw_45.2.2.2.2.2.2.2.2.2.2.2.2.2.2.2.2.1 rfl ?_
    refine g_iadd (pc := 74) dd_M_addsLaw_45.2.2.2.2.2.2.2.2.2.2.2.2.2.2.2.2.2.1 ?_
    refine g_iload (pc := 75) 7 dd_M_addsLaw_45.2.2.2.2.2.2.2.2.2.2.2.2.2.2.2.2.2.2.1 rfl ?_
    refine g_iadd (pc := 77) dd_M_addsLaw_45.2.2.2.2.2.2.2.2.2.2.2.2.2.2.2.2.2.2.2.1 ?_
    obtain ⟨u24, e23, hf⟩ := bd1_e hf
    obtain ⟨x27, h25, e26, hf⟩ := bd2_e hf
    refine g_callV (pc := 78) (ci := 8) [.int (1 : Int32), .int b1, .int ((b5 + b6) + b7)] (site_of si_M_isSo (by decide) (by decide)) wd_1353 wd_1355 wp_70 dd_M_addsLaw_45.2.2.2.2.2.2.2.2.2.2.2.2.2.2.2.2.2.2.2.2.1 rfl e23 (Nat.le_of_ble_eq_true rfl) (fun z => absurd z si_na_M_isSo) (fun z => absurd z si_na_M_isSo) (fun z => absurd z si_na_M_isSo) (c_M_isSo e26) rfl ?_
    refine g_st [.int x27] rfl ?_
    refine g_ifeq (pc := 81) 133 dd_M_addsLaw_45.2.2.2.2.2.2.2.2.2.2.2.2.2.2.2.2.2.2.2.2.2.1 (by decide) (fun c46 => ?_) (fun c46 => ?_)
    · replace hf := (if_pos c46).symm.trans hf
      refine g_lv [0, 1, 2, 3, 4, 5, 6, 7] rfl ?_
      exact t_M_addsLaw_133 rec28 hrec28 rec42 hrec42 rec56 hrec56 _ _ _ _ _ _ _ _ _ _  hf
    · replace hf := (if_neg c46).symm.trans hf
      refine g_aload_n (pc := 84) 0 dd_M_addsLaw_45.2.2.2.2.2.2.2.2.2.2.2.2.2.2.2.2.2.2.2.2.2.2.1 rfl rfl ?_
      refine g_iconst (pc := 85) (0 : Int32) dd_M_addsLaw_45.2.2.2.2.2.2.2.2.2.2.2.2.2.2.2.2.2.2.2.2.2.2.2 (by decide) ?_
      refine g_iload_n (pc := 86) 1 dd_M_addsLaw_86.1 rfl rfl ?_
      refine g_iload (pc := 87) 5 dd_M_addsLaw_86.2.1 rfl ?_
      refine g_iload_n (pc := 89) 2 dd_M_addsLaw_86.2.2.1 rfl rfl ?_
      refine g_iload_n (pc := 90) 3 dd_M_addsLaw_86.2.2.2.1 rfl rfl ?_
      refine g_iload (pc := 91) 4 dd_M_addsLaw_86.2.2.2.2.1 rfl ?_
      obtain ⟨u29, e28, hf⟩ := bd1_e hf
      obtain ⟨x32, h30, e31, hf⟩ := bd2_e hf
      refine g_callV (pc := 93) (ci := 8) [.int (0 : Int32), .int b1, .int b5, .int b2, .int b3, .int b4] (site_of si_M_isAsked (by decide) (by decide)) wd_1357 wd_1359 wp_71 dd_M_addsLaw_86.2.2.2.2.2.1 rfl e28 (Nat.le_of_ble_eq_true rfl) (fun z => absurd z si_na_M_isAsked) (fun z => absurd z si_na_M_isAsked) (fun z => absurd z si_na_M_isAsked) (c_M_isAsked e31) rfl ?_
      refine g_st [.int x32] rfl ?_
      refine g_ifeq (pc := 96) 133 dd_M_addsLaw_86.2.2.2.2.2.2.1 (by decide) (fun c45 => ?_) (fun c45 => ?_)
      · replace hf := (if_pos c45).symm.trans hf
        refine g_lv [0, 1, 2, 3, 4, 5, 6, 7] rfl ?_
        exact t_M_addsLaw_133 rec28 hrec28 rec42 hrec42 rec56 hrec56 _ _ _ _ _ _ _ _ _ _  hf
      · replace hf := (if_neg c45).symm.trans hf
        refine g_aload_n (pc := 99) 0 dd_M_addsLaw_86.2.2.2.2.2.2.2.1 rfl rfl ?_
        refine g_iconst (pc := 100) (1 : Int32) dd_M_addsLaw_86.2.2.2.2.2.2.2.2.1 (by decide) ?_
        refine g_iload_n (pc := 101) 1 dd_M_addsLaw_86.2.2.2.2.2.2.2.2.2.1 rfl rfl ?_
        refine g_iload (pc := 102) 6 dd_M_addsLaw_86.2.2.2.2.2.2.2.2.2.2.1 rfl ?_
        refine g_iload_n (pc := 104) 2 dd_M_addsLaw_86.2.2.2.2.2.2.2.2.2.2.2.1 rfl rfl ?_
        refine g_iload_n (pc := 105) 3 dd_M_addsLaw_86.2.2.2.2.2.2.2.2.2.2.2.2.1 rfl rfl ?_
        refine g_iload (pc := 106) 4 dd_M_addsLaw_86.2.2.2.2.2.2.2.2.2.2.2.2.2.1 rfl ?_
        obtain ⟨u34, e33, hf⟩ := bd1_e hf
        obtain ⟨x37, h35, e36, hf⟩ := bd2_e hf
        refine g_callV (pc := 108) (ci := 8) [.int (1 : Int32), .int b1, .int b6, .int b2, .int b3, .int b4] (site_of si_M_isAsked (by decide) (by decide)) wd_1357 wd_1359 wp_71 dd_M_addsLaw_86.2.2.2.2.2.2.2.2.2.2.2.2.2.2.1 rfl e33 (Nat.le_of_ble_eq_true rfl) (fun z => absurd z si_na_M_isAsked) (fun z => absurd z si_na_M_isAsked) (fun z => absurd z si_na_M_isAsked) (c_M_isAsked e36) rfl ?_
        refine g_st [.int x37] rfl ?_
        refine g_ifeq (pc := 111) 133 dd_M_addsLaw_86.2.2.2.2.2.2.2.2.2.2.2.2.2.2.2.1 (by decide) (fun c44 => ?_) (fun c44 => ?_)
        · replace hf := (if_pos c44).symm.trans hf
          refine g_lv [0, 1, 2, 3, 4, 5, 6, 7] rfl ?_
          exact t_M_addsLaw_133 rec28 hrec28 rec42 hrec42 rec56 hrec56 _ _ _ _ _ _ _ _ _ _  hf
        · replace hf := (if_neg c44).symm.trans hf
          refine g_aload_n (pc := 114) 0 dd_M_addsLaw_86.2.2.2.2.2.2.2.2.2.2.2.2.2.2.2.2.1 rfl rfl ?_
          refine g_iconst (pc := 115) (2 : Int32) dd_M_addsLaw_86.2.2.2.2.2.2.2.2.2.2.2.2.2.2.2.2.2.1 (by decide) ?_
          refine g_iload_n (pc := 116) 1 dd_M_addsLaw_86.2.2.2.2.2.2.2.2.2.2.2.2.2.2.2.2.2.2.1 rfl rfl ?_
          refine g_iload (pc := 117) 7 dd_M_addsLaw_86.2.2.2.2.2.2.2.2.2.2.2.2.2.2.2.2.2.2.2.1 rfl ?_
          refine g_iload_n (pc := 119) 2 dd_M_addsLaw_86.2.2.2.2.2.2.2.2.2.2.2.2.2.2.2.2.2.2.2.2.1 rfl rfl ?_
          refine g_iload_n (pc := 120) 3 dd_M_addsLaw_86.2.2.2.2.2.2.2.2.2.2.2.2.2.2.2.2.2.2.2.2.2.1 rfl rfl ?_
          refine g_iload (pc := 121) 4 dd_M_addsLaw_86.2.2.2.2.2.2.2.2.2.2.2.2.2.2.2.2.2.2.2.2.2.2.1 rfl ?_
          obtain ⟨u39, e38, hf⟩ := bd1_e hf
          obtain ⟨x42, h40, e41, hf⟩ := bd2_e hf
          refine g_callV (pc := 123) (ci := 8) [.int (2 : Int32), .int b1, .int b7, .int b2, .int b3, .int b4] (site_of si_M_isAsked (by decide) (by decide)) wd_1357 wd_1359 wp_71 dd_M_addsLaw_86.2.2.2.2.2.2.2.2.2.2.2.2.2.2.2.2.2.2.2.2.2.2.2 rfl e38 (Nat.le_of_ble_eq_true rfl) (fun z => absurd z si_na_M_isAsked) (fun z => absurd z si_na_M_isAsked) (fun z => absurd z si_na_M_isAsked) (c_M_isAsked e41) rfl ?_
          refine g_st [.int x42] rfl ?_
          refine g_ifeq (pc := 126) 133 dd_M_addsLaw_126.1 (by decide) (fun c43 => ?_) (fun c43 => ?_)
          · replace hf := (if_pos c43).symm.trans hf
            refine g_lv [0, 1, 2, 3, 4, 5, 6, 7] rfl ?_
            exact t_M_addsLaw_133 rec28 hrec28 rec42 hrec42 rec56 hrec56 _ _ _ _ _ _ _ _ _ _  hf
          · replace hf := (if_neg c43).symm.trans hf
            refine g_iconst (pc := 129) (1 : Int32) dd_M_addsLaw_126.2.1 (by decide) ?_
            refine g_goto (pc := 130) 134 dd_M_addsLaw_126.2.2.1 (by decide) ?_
            refine g_lv [0, 1, 2, 3, 4, 5, 6, 7] rfl ?_
            exact t_M_addsLaw_134 rec28 hrec28 rec42 hrec42 rec56 hrec56 _ _ _ _ _ _ _ _ _ _ _  hf
def f_M_addsLaw_56 (rec28 : Nat → Int32 → Int32 → Int32 → Int32 → Int32 → mH → Option mH) (rec42 : Nat → Int32 → Int32 → Int32 → Int32 → Int32 → Int32 → mH → Option mH) : Nat → Nat → Int32 → Int32 → Int32 → Int32 → Int32 → Int32 → Int32 → mH → Option mH
  | 0 => fun _ _ _ _ _ _ _ _ _ => none
  | n + 1 => f_M_addsLaw_56b rec28 rec42 (f_M_addsLaw_56 rec28 rec42 n)
theorem t_M_addsLaw_56 {sc : Nat × (Nat → Int32)} (rec28 : Nat → Int32 → Int32 → Int32 → Int32 → Int32 → mH → Option mH) (hrec28 : ∀ (b0 : Nat) (b1 : Int32) (b2 : Int32) (b3 : Int32) (b4 : Int32) (b5 : Int32) (h : mH) (h' : mH), rec28 b0 b1 b2 b3 b4 b5 h = some h' → G sc y_M_addsLaw prog_10_method_76_code 9 none 1 27 28 [(0, .ref b0), (1, .int b1), (2, .int b2), (3, .int b3), (4, .int b4), (5, .int b5)] [] h none h') (rec42 : Nat → Int32 → Int32 → Int32 → Int32 → Int32 → Int32 → mH → Option mH) (hrec42 : ∀ (b0 : Nat) (b1 : Int32) (b2 : Int32) (b3 : Int32) (b4 : Int32) (b5 : Int32) (b6 : Int32) (h : mH) (h' : mH), rec42 b0 b1 b2 b3 b4 b5 b6 h = some h' → G sc y_M_addsLaw prog_10_method_76_code 9 none 1 27 42 [(0, .ref b0), (1, .int b1), (2, .int b2), (3, .int b3), (4, .int b4), (5, .int b5), (6, .int b6)] [] h none h') : ∀ (n : Nat) (b0 : Nat) (b1 : Int32) (b2 : Int32) (b3 : Int32) (b4 : Int32) (b5 : Int32) (b6 : Int32) (b7 : Int32) (h : mH) (h' : mH) (hf : f_M_addsLaw_56 rec28 rec42 n b0 b1 b2 b3 b4 b5 b6 b7 h = some h'), G sc y_M_addsLaw prog_10_method_76_code 9 none 1 27 56 [(0, .ref b0), (1, .int b1), (2, .int b2), (3, .int b3), (4, .int b4), (5, .int b5), (6, .int b6), (7, .int b7)] [] h none h'
  | 0, _, _, _, _, _, _, _, _, _, _, hf => by cases hf
  | n + 1, _, _, _, _, _, _, _, _, _, _, hf => t_M_addsLaw_56b rec28 hrec28 rec42 hrec42 (f_M_addsLaw_56 rec28 rec42 n) (t_M_addsLaw_56 rec28 hrec28 rec42 hrec42 n) _ _ _ _ _ _ _ _ _ _ hf
def f_M_addsLaw_42b (rec28 : Nat → Int32 → Int32 → Int32 → Int32 → Int32 → mH → Option mH) (rec42 : Nat → Int32 → Int32 → Int32 → Int32 → Int32 → Int32 → mH → Option mH) (b0 : Nat) (b1 : Int32) (b2 : Int32) (b3 : Int32) (b4 : Int32) (b5 : Int32) (b6 : Int32) (h : mH) : Option mH :=
  bd1 (kC h b0 8) fun _ =>
  bd2 (f_M_mostOf b0 (1 : Int32) b1 h) fun x16 h14 =>
  if x16 < b6 then
    rec28 b0 b1 b2 b3 b4 (b5 + (1 : Int32)) h14
  else
    f_M_addsLaw_56 rec28 rec42 FU b0 b1 b2 b3 b4 b5 b6 (0 : Int32) h14
set_option maxRecDepth 20000 in
theorem t_M_addsLaw_42b {sc : Nat × (Nat → Int32)} (rec28 : Nat → Int32 → Int32 → Int32 → Int32 → Int32 → mH → Option mH) (hrec28 : ∀ (b0 : Nat) (b1 : Int32) (b2 : Int32) (b3 : Int32) (b4 : Int32) (b5 : Int32) (h : mH) (h' : mH), rec28 b0 b1 b2 b3 b4 b5 h = some h' → G sc y_M_addsLaw prog_10_method_76_code 9 none 1 27 28 [(0, .ref b0), (1, .int b1), (2, .int b2), (3, .int b3), (4, .int b4), (5, .int b5)] [] h none h') (rec42 : Nat → Int32 → Int32 → Int32 → Int32 → Int32 → Int32 → mH → Option mH) (hrec42 : ∀ (b0 : Nat) (b1 : Int32) (b2 : Int32) (b3 : Int32) (b4 : Int32) (b5 : Int32) (b6 : Int32) (h : mH) (h' : mH), rec42 b0 b1 b2 b3 b4 b5 b6 h = some h' → G sc y_M_addsLaw prog_10_method_76_code 9 none 1 27 42 [(0, .ref b0), (1, .int b1), (2, .int b2), (3, .int b3), (4, .int b4), (5, .int b5), (6, .int b6)] [] h none h') (b0 : Nat) (b1 : Int32) (b2 : Int32) (b3 : Int32) (b4 : Int32) (b5 : Int32) (b6 : Int32) (h : mH) (h' : mH) (hf : f_M_addsLaw_42b rec28 rec42 b0 b1 b2 b3 b4 b5 b6 h = some h') : G sc y_M_addsLaw prog_10_method_76_code 9 none 1 27 42 [(0, .ref b0), (1, .int b1), (2, .int b2), (3, .int b3), (4, .int b4), (5, .int b5), (6, .int b6)] [] h none h' := by
  unfold f_M_addsLaw_42b at hf
  refine g_iload (pc := 42) 6 dd_M_addsLaw_0.2.2.2.2.2.2.2.2.2.2.2.2.2.2.2.2.2.2.2.2.2.2.1 rfl ?_
  refine g_aload_n (pc := 44) 0 dd_M_addsLaw_0.2.2.2.2.2.2.2.2.2.2.2.2.2.2.2.2.2.2.2.2.2.2.2 rfl rfl ?_
  refine g_iconst (pc := 45) (1 : Int32) dd_M_addsLaw_45.1 (by decide) ?_
  refine g_iload_n (pc := 46) 1 dd_M_addsLaw_45.2.1 rfl rfl ?_
  obtain ⟨u13, e12, hf⟩ := bd1_e hf
  obtain ⟨x16, h14, e15, hf⟩ := bd2_e hf
  refine g_callV (pc := 47) (ci := 8) [.int (1 : Int32), .int b1] (site_of si_M_mostOf (by decide) (by decide)) wd_1349 wd_1351 wp_69 dd_M_addsLaw_45.2.2.1 rfl e12 (Nat.le_of_ble_eq_true rfl) (fun z => absurd z si_na_M_mostOf) (fun z => absurd z si_na_M_mostOf) (fun z => absurd z si_na_M_mostOf) (c_M_mostOf e15) rfl ?_
  refine g_st [.int x16, .int b6] rfl ?_
  refine g_icmpgt (pc := 50) 163 dd_M_addsLaw_45.2.2.2.1 (by decide) (fun c17 => ?_) (fun c17 => ?_)
  · replace hf := (if_pos c17).symm.trans hf
    refine g_iinc (pc := 163) 5 (b5 + (1 : Int32)) [(5, .int (b5 + (1 : Int32))), (0, .ref b0), (1, .int b1), (2, .int b2), (3, .int b3), (4, .int b4), (6, .int b6)] dd_M_addsLaw_126.2.2.2.2.2.2.2.2.2.2.2.2.2.2.2.2.1 rfl rfl (Nat.le_of_ble_eq_true rfl) rfl ?_
    refine g_goto (pc := 166) 28 dd_M_addsLaw_126.2.2.2.2.2.2.2.2.2.2.2.2.2.2.2.2.2.1 (by decide) ?_
    refine g_lv [1, 2, 3, 4, 5, 0] rfl ?_
    exact hrec28 _ _ _ _ _ _ _ _  hf
  · replace hf := (if_neg c17).symm.trans hf
    refine g_iconst (pc := 53) (0 : Int32) dd_M_addsLaw_45.2.2.2.2.1 (by decide) ?_
    refine g_istore (pc := 54) [(7, .int (0 : Int32)), (0, .ref b0), (1, .int b1), (2, .int b2), (3, .int b3), (4, .int b4), (5, .int b5), (6, .int b6)] dd_M_addsLaw_45.2.2.2.2.2.1 (Nat.le_of_ble_eq_true rfl) rfl ?_
    refine g_lv [1, 2, 3, 4, 5, 6, 7, 0] rfl ?_
    exact t_M_addsLaw_56 rec28 hrec28 rec42 hrec42 FU _ _ _ _ _ _ _ _ _ _  hf
def f_M_addsLaw_42 (rec28 : Nat → Int32 → Int32 → Int32 → Int32 → Int32 → mH → Option mH) : Nat → Nat → Int32 → Int32 → Int32 → Int32 → Int32 → Int32 → mH → Option mH
  | 0 => fun _ _ _ _ _ _ _ _ => none
  | n + 1 => f_M_addsLaw_42b rec28 (f_M_addsLaw_42 rec28 n)
theorem t_M_addsLaw_42 {sc : Nat × (Nat → Int32)} (rec28 : Nat → Int32 → Int32 → Int32 → Int32 → Int32 → mH → Option mH) (hrec28 : ∀ (b0 : Nat) (b1 : Int32) (b2 : Int32) (b3 : Int32) (b4 : Int32) (b5 : Int32) (h : mH) (h' : mH), rec28 b0 b1 b2 b3 b4 b5 h = some h' → G sc y_M_addsLaw prog_10_method_76_code 9 none 1 27 28 [(0, .ref b0), (1, .int b1), (2, .int b2), (3, .int b3), (4, .int b4), (5, .int b5)] [] h none h') : ∀ (n : Nat) (b0 : Nat) (b1 : Int32) (b2 : Int32) (b3 : Int32) (b4 : Int32) (b5 : Int32) (b6 : Int32) (h : mH) (h' : mH) (hf : f_M_addsLaw_42 rec28 n b0 b1 b2 b3 b4 b5 b6 h = some h'), G sc y_M_addsLaw prog_10_method_76_code 9 none 1 27 42 [(0, .ref b0), (1, .int b1), (2, .int b2), (3, .int b3), (4, .int b4), (5, .int b5), (6, .int b6)] [] h none h'
  | 0, _, _, _, _, _, _, _, _, _, hf => by cases hf
  | n + 1, _, _, _, _, _, _, _, _, _, hf => t_M_addsLaw_42b rec28 hrec28 (f_M_addsLaw_42 rec28 n) (t_M_addsLaw_42 rec28 hrec28 n) _ _ _ _ _ _ _ _ _ hf
def f_M_addsLaw_28b (rec28 : Nat → Int32 → Int32 → Int32 → Int32 → Int32 → mH → Option mH) (b0 : Nat) (b1 : Int32) (b2 : Int32) (b3 : Int32) (b4 : Int32) (b5 : Int32) (h : mH) : Option mH :=
  bd1 (kC h b0 8) fun _ =>
  bd2 (f_M_mostOf b0 (0 : Int32) b1 h) fun x10 h8 =>
  if x10 < b5 then
    f_M_addsLaw_172  FU b0 (0 : Int32) h8
  else
    f_M_addsLaw_42 rec28 FU b0 b1 b2 b3 b4 b5 (0 : Int32) h8
set_option maxRecDepth 20000 in
theorem t_M_addsLaw_28b {sc : Nat × (Nat → Int32)} (rec28 : Nat → Int32 → Int32 → Int32 → Int32 → Int32 → mH → Option mH) (hrec28 : ∀ (b0 : Nat) (b1 : Int32) (b2 : Int32) (b3 : Int32) (b4 : Int32) (b5 : Int32) (h : mH) (h' : mH), rec28 b0 b1 b2 b3 b4 b5 h = some h' → G sc y_M_addsLaw prog_10_method_76_code 9 none 1 27 28 [(0, .ref b0), (1, .int b1), (2, .int b2), (3, .int b3), (4, .int b4), (5, .int b5)] [] h none h') (b0 : Nat) (b1 : Int32) (b2 : Int32) (b3 : Int32) (b4 : Int32) (b5 : Int32) (h : mH) (h' : mH) (hf : f_M_addsLaw_28b rec28 b0 b1 b2 b3 b4 b5 h = some h') : G sc y_M_addsLaw prog_10_method_76_code 9 none 1 27 28 [(0, .ref b0), (1, .int b1), (2, .int b2), (3, .int b3), (4, .int b4), (5, .int b5)] [] h none h' := by
  unfold f_M_addsLaw_28b at hf
  refine g_iload (pc := 28) 5 dd_M_addsLaw_0.2.2.2.2.2.2.2.2.2.2.2.2.2.2.1 rfl ?_
  refine g_aload_n (pc := 30) 0 dd_M_addsLaw_0.2.2.2.2.2.2.2.2.2.2.2.2.2.2.2.1 rfl rfl ?_
  refine g_iconst (pc := 31) (0 : Int32) dd_M_addsLaw_0.2.2.2.2.2.2.2.2.2.2.2.2.2.2.2.2.1 (by decide) ?_
  refine g_iload_n (pc := 32) 1 dd_M_addsLaw_0.2.2.2.2.2.2.2.2.2.2.2.2.2.2.2.2.2.1 rfl rfl ?_
  obtain ⟨u7, e6, hf⟩ := bd1_e hf
  obtain ⟨x10, h8, e9, hf⟩ := bd2_e hf
  refine g_callV (pc := 33) (ci := 8) [.int (0 : Int32), .int b1] (site_of si_M_mostOf (by decide) (by decide)) wd_1349 wd_1351 wp_69 dd_M_addsLaw_0.2.2.2.2.2.2.2.2.2.2.2.2.2.2.2.2.2.2.1 rfl e6 (Nat.le_of_ble_eq_true rfl) (fun z => absurd z si_na_M_mostOf) (fun z => absurd z si_na_M_mostOf) (fun z => absurd z si_na_M_mostOf) (c_M_mostOf e9) rfl ?_
  refine g_st [.int x10, .int b5] rfl ?_
  refine g_icmpgt (pc := 36) 169 dd_M_addsLaw_0.2.2.2.2.2.2.2.2.2.2.2.2.2.2.2.2.2.2.2.1 (by decide) (fun c11 => ?_) (fun c11 => ?_)
  · replace hf := (if_pos c11).symm.trans hf
    refine g_iconst (pc := 169) (0 : Int32) dd_M_addsLaw_126.2.2.2.2.2.2.2.2.2.2.2.2.2.2.2.2.2.2.1 (by decide) ?_
    refine g_istore (pc := 170) [(5, .int (0 : Int32)), (0, .ref b0), (1, .int b1), (2, .int b2), (3, .int b3), (4, .int b4)] dd_M_addsLaw_126.2.2.2.2.2.2.2.2.2.2.2.2.2.2.2.2.2.2.2.1 (Nat.le_of_ble_eq_true rfl) rfl ?_
    refine g_lv [1, 0] rfl ?_
    exact t_M_addsLaw_172  FU _ _ _ _  hf
  · replace hf := (if_neg c11).symm.trans hf
    refine g_iconst (pc := 39) (0 : Int32) dd_M_addsLaw_0.2.2.2.2.2.2.2.2.2.2.2.2.2.2.2.2.2.2.2.2.1 (by decide) ?_
    refine g_istore (pc := 40) [(6, .int (0 : Int32)), (0, .ref b0), (1, .int b1), (2, .int b2), (3, .int b3), (4, .int b4), (5, .int b5)] dd_M_addsLaw_0.2.2.2.2.2.2.2.2.2.2.2.2.2.2.2.2.2.2.2.2.2.1 (Nat.le_of_ble_eq_true rfl) rfl ?_
    refine g_lv [1, 2, 3, 4, 5, 6, 0] rfl ?_
    exact t_M_addsLaw_42 rec28 hrec28 FU _ _ _ _ _ _ _ _ _  hf
def f_M_addsLaw_28  : Nat → Nat → Int32 → Int32 → Int32 → Int32 → Int32 → mH → Option mH
  | 0 => fun _ _ _ _ _ _ _ => none
  | n + 1 => f_M_addsLaw_28b  (f_M_addsLaw_28  n)
theorem t_M_addsLaw_28 {sc : Nat × (Nat → Int32)}  : ∀ (n : Nat) (b0 : Nat) (b1 : Int32) (b2 : Int32) (b3 : Int32) (b4 : Int32) (b5 : Int32) (h : mH) (h' : mH) (hf : f_M_addsLaw_28  n b0 b1 b2 b3 b4 b5 h = some h'), G sc y_M_addsLaw prog_10_method_76_code 9 none 1 27 28 [(0, .ref b0), (1, .int b1), (2, .int b2), (3, .int b3), (4, .int b4), (5, .int b5)] [] h none h'
  | 0, _, _, _, _, _, _, _, _, hf => by cases hf
  | n + 1, _, _, _, _, _, _, _, _, hf => t_M_addsLaw_28b  (f_M_addsLaw_28  n) (t_M_addsLaw_28  n) _ _ _ _ _ _ _ _ hf
def f_M_addsLaw_3b (rec3 : Nat → Int32 → Int32 → Int32 → Int32 → Int32 → mH → Option mH) (b0 : Nat) (b1 : Int32) (b2 : Int32) (b3 : Int32) (b4 : Int32) (b5 : Int32) (h : mH) : Option mH :=
  if (216 : Int32) ≤ b5 then
    f_M_addsLaw_28  FU b0 b1 b2 b3 b4 (0 : Int32) h
  else
    bd1 (gR h b0 8 34) fun x1 =>
    bd1 (sL h x1 b5 (0 : Int64)) fun h3 =>
    rec3 b0 b1 b2 b3 b4 (b5 + (1 : Int32)) h3
set_option maxRecDepth 20000 in
theorem t_M_addsLaw_3b {sc : Nat × (Nat → Int32)} (rec3 : Nat → Int32 → Int32 → Int32 → Int32 → Int32 → mH → Option mH) (hrec3 : ∀ (b0 : Nat) (b1 : Int32) (b2 : Int32) (b3 : Int32) (b4 : Int32) (b5 : Int32) (h : mH) (h' : mH), rec3 b0 b1 b2 b3 b4 b5 h = some h' → G sc y_M_addsLaw prog_10_method_76_code 9 none 1 27 3 [(0, .ref b0), (1, .int b1), (2, .int b2), (3, .int b3), (4, .int b4), (5, .int b5)] [] h none h') (b0 : Nat) (b1 : Int32) (b2 : Int32) (b3 : Int32) (b4 : Int32) (b5 : Int32) (h : mH) (h' : mH) (hf : f_M_addsLaw_3b rec3 b0 b1 b2 b3 b4 b5 h = some h') : G sc y_M_addsLaw prog_10_method_76_code 9 none 1 27 3 [(0, .ref b0), (1, .int b1), (2, .int b2), (3, .int b3), (4, .int b4), (5, .int b5)] [] h none h' := by
  unfold f_M_addsLaw_3b at hf
  refine g_iload (pc := 3) 5 dd_M_addsLaw_0.2.2.1 rfl ?_
  refine g_sipush (pc := 5) (216 : Int32) dd_M_addsLaw_0.2.2.2.1 (by decide) ?_
  refine g_icmpge (pc := 8) 25 dd_M_addsLaw_0.2.2.2.2.1 (by decide) (fun c5 => ?_) (fun c5 => ?_)
  · replace hf := (if_pos c5).symm.trans hf
    refine g_iconst (pc := 25) (0 : Int32) dd_M_addsLaw_0.2.2.2.2.2.2.2.2.2.2.2.2.1 (by decide) ?_
    refine g_istore (pc := 26) [(5, .int (0 : Int32)), (0, .ref b0), (1, .int b1), (2, .int b2), (3, .int b3), (4, .int b4)] dd_M_addsLaw_0.2.2.2.2.2.2.2.2.2.2.2.2.2.1 (Nat.le_of_ble_eq_true rfl) rfl ?_
    refine g_lv [1, 2, 3, 4, 5, 0] rfl ?_
    exact t_M_addsLaw_28  FU _ _ _ _ _ _ _ _  hf
  · replace hf := (if_neg c5).symm.trans hf
    refine g_aload_n (pc := 11) 0 dd_M_addsLaw_0.2.2.2.2.2.1 rfl rfl ?_
    obtain ⟨x1, e2, hf⟩ := bd1_e hf
    refine g_get (pc := 12) (ci := 8) (kk := 34) dd_M_addsLaw_0.2.2.2.2.2.2.1 rfl in_M (by decide) wd_972 (gR_spec e2) ?_
    refine g_iload (pc := 15) 5 dd_M_addsLaw_0.2.2.2.2.2.2.2.1 rfl ?_
    refine g_lconst (pc := 17) (0 : Int64) dd_M_addsLaw_0.2.2.2.2.2.2.2.2.1 (by decide) ?_
    obtain ⟨h3, e4, hf⟩ := bd1_e hf
    refine g_last (pc := 18) dd_M_addsLaw_0.2.2.2.2.2.2.2.2.2.1 e4 ?_
    refine g_iinc (pc := 19) 5 (b5 + (1 : Int32)) [(5, .int (b5 + (1 : Int32))), (0, .ref b0), (1, .int b1), (2, .int b2), (3, .int b3), (4, .int b4)] dd_M_addsLaw_0.2.2.2.2.2.2.2.2.2.2.1 rfl rfl (Nat.le_of_ble_eq_true rfl) rfl ?_
    refine g_goto (pc := 22) 3 dd_M_addsLaw_0.2.2.2.2.2.2.2.2.2.2.2.1 (by decide) ?_
    refine g_lv [1, 2, 3, 4, 5, 0] rfl ?_
    exact hrec3 _ _ _ _ _ _ _ _  hf
def f_M_addsLaw_3  : Nat → Nat → Int32 → Int32 → Int32 → Int32 → Int32 → mH → Option mH
  | 0 => fun _ _ _ _ _ _ _ => none
  | n + 1 => f_M_addsLaw_3b  (f_M_addsLaw_3  n)
theorem t_M_addsLaw_3 {sc : Nat × (Nat → Int32)}  : ∀ (n : Nat) (b0 : Nat) (b1 : Int32) (b2 : Int32) (b3 : Int32) (b4 : Int32) (b5 : Int32) (h : mH) (h' : mH) (hf : f_M_addsLaw_3  n b0 b1 b2 b3 b4 b5 h = some h'), G sc y_M_addsLaw prog_10_method_76_code 9 none 1 27 3 [(0, .ref b0), (1, .int b1), (2, .int b2), (3, .int b3), (4, .int b4), (5, .int b5)] [] h none h'
  | 0, _, _, _, _, _, _, _, _, hf => by cases hf
  | n + 1, _, _, _, _, _, _, _, _, hf => t_M_addsLaw_3b  (f_M_addsLaw_3  n) (t_M_addsLaw_3  n) _ _ _ _ _ _ _ _ hf
def f_M_addsLaw_0  (a0 : Nat) (a1 : Int32) (a2 : Int32) (a3 : Int32) (a4 : Int32) (h : mH) : Option mH :=
  f_M_addsLaw_3  FU a0 a1 a2 a3 a4 (0 : Int32) h
set_option maxRecDepth 20000 in
theorem t_M_addsLaw_0 {sc : Nat × (Nat → Int32)}  (a0 : Nat) (a1 : Int32) (a2 : Int32) (a3 : Int32) (a4 : Int32) (h : mH) (h' : mH) (hf : f_M_addsLaw_0  a0 a1 a2 a3 a4 h = some h') : G sc y_M_addsLaw prog_10_method_76_code 9 none 1 27 0 [(0, .ref a0), (1, .int a1), (2, .int a2), (3, .int a3), (4, .int a4)] [] h none h' := by
  unfold f_M_addsLaw_0 at hf
  refine g_iconst (pc := 0) (0 : Int32) dd_M_addsLaw_0.1 (by decide) ?_
  refine g_istore (pc := 1) [(5, .int (0 : Int32)), (0, .ref a0), (1, .int a1), (2, .int a2), (3, .int a3), (4, .int a4)] dd_M_addsLaw_0.2.1 (Nat.le_of_ble_eq_true rfl) rfl ?_
  refine g_lv [1, 2, 3, 4, 5, 0] rfl ?_
  exact t_M_addsLaw_3  FU _ _ _ _ _ _ _ _  hf
def f_M_addsLaw (a0 : Nat) (a1 : Int32) (a2 : Int32) (a3 : Int32) (a4 : Int32) (h : mH) : Option mH := f_M_addsLaw_0 a0 a1 a2 a3 a4 h
theorem c_M_addsLaw {sc : Nat × (Nat → Int32)} {a0 : Nat} {a1 : Int32} {a2 : Int32} {a3 : Int32} {a4 : Int32} {h : mH} {h' : mH} (hf : f_M_addsLaw a0 a1 a2 a3 a4 h = some h') : MM sc y_M_addsLaw prog_10_method_76_code 9 none 1 27 [.ref a0, .int a1, .int a2, .int a3, .int a4] h none h' :=
  mm_of_G si_pn_M (Nat.le_of_ble_eq_true rfl) (t_M_addsLaw_0 _ _ _ _ _ _ _ hf)
/-! M isTime (II)Z -/
set_option maxRecDepth 100000 in
theorem dd_M_isTime_0 : (decode prog_10_method_78_code 0 = .ok (.iload_n 1, 1)) ∧ (decode prog_10_method_78_code 1 = .ok (.aload_n 0, 1)) ∧ (decode prog_10_method_78_code 2 = .ok (.getfield 109, 3)) ∧ (decode prog_10_method_78_code 5 = .ok (.if_icmp .lt 15, 3)) ∧ (decode prog_10_method_78_code 8 = .ok (.iload_n 2, 1)) ∧ (decode prog_10_method_78_code 9 = .ok (.ifCond .ne 7, 3)) ∧ (decode prog_10_method_78_code 12 = .ok (.iconst 1, 1)) ∧ (decode prog_10_method_78_code 13 = .ok (.goto 35, 3)) ∧ (decode prog_10_method_78_code 16 = .ok (.iconst 0, 1)) ∧ (decode prog_10_method_78_code 17 = .ok (.goto 31, 3)) ∧ (decode prog_10_method_78_code 20 = .ok (.iload_n 2, 1)) ∧ (decode prog_10_method_78_code 21 = .ok (.aload_n 0, 1)) ∧ (decode prog_10_method_78_code 22 = .ok (.getfield 7, 3)) ∧ (decode prog_10_method_78_code 25 = .ok (.bipush 12, 2)) ∧ (decode prog_10_method_78_code 27 = .ok (.iload_n 1, 1)) ∧ (decode prog_10_method_78_code 28 = .ok (.iadd, 1)) ∧ (decode prog_10_method_78_code 29 = .ok (.iaload, 1)) ∧ (decode prog_10_method_78_code 30 = .ok (.if_icmp .gt 17, 3)) ∧ (decode prog_10_method_78_code 33 = .ok (.aload_n 0, 1)) ∧ (decode prog_10_method_78_code 34 = .ok (.iconst 0, 1)) ∧ (decode prog_10_method_78_code 35 = .ok (.iload_n 1, 1)) ∧ (decode prog_10_method_78_code 36 = .ok (.iload_n 2, 1)) ∧ (decode prog_10_method_78_code 37 = .ok (.invokevirtual 297, 3)) ∧ (decode prog_10_method_78_code 40 = .ok (.ifCond .eq 7, 3)) := by
  have h : List.drop 0 prog_10_method_78_code.data.toList = 0x1b :: _ := rfl
  refine ⟨zq_k_n 27 h rfl (zq_o_27 _), ?_⟩
  replace h := zq_nx1 (q := 1) h rfl
  refine ⟨zq_k_n 42 h rfl (zq_o_42 _), ?_⟩
  replace h := zq_nx1 (q := 2) h rfl
  refine ⟨zq_k_u2 180 (fun z => .getfield z) 109 h rfl (zq_o_180 _) (by decide +kernel), ?_⟩
  replace h := zq_nx3 (q := 5) h rfl
  refine ⟨zq_k_s2 161 (fun z => .if_icmp .lt z) 15 h rfl (zq_o_161 _) (by decide +kernel), ?_⟩
  replace h := zq_nx3 (q := 8) h rfl
  refine ⟨zq_k_n 28 h rfl (zq_o_28 _), ?_⟩
  replace h := zq_nx1 (q := 9) h rfl
  refine ⟨zq_k_s2 154 (fun z => .ifCond .ne z) 7 h rfl (zq_o_154 _) (by decide +kernel), ?_⟩
  replace h := zq_nx3 (q := 12) h rfl
  refine ⟨zq_k_n 4 h rfl (zq_o_4 _), ?_⟩
  replace h := zq_nx1 (q := 13) h rfl
  refine ⟨zq_k_s2 167 (fun z => .goto z) 35 h rfl (zq_o_167 _) (by decide +kernel), ?_⟩
  replace h := zq_nx3 (q := 16) h rfl
  refine ⟨zq_k_n 3 h rfl (zq_o_3 _), ?_⟩
  replace h := zq_nx1 (q := 17) h rfl
  refine ⟨zq_k_s2 167 (fun z => .goto z) 31 h rfl (zq_o_167 _) (by decide +kernel), ?_⟩
  replace h := zq_nx3 (q := 20) h rfl
  refine ⟨zq_k_n 28 h rfl (zq_o_28 _), ?_⟩
  replace h := zq_nx1 (q := 21) h rfl
  refine ⟨zq_k_n 42 h rfl (zq_o_42 _), ?_⟩
  replace h := zq_nx1 (q := 22) h rfl
  refine ⟨zq_k_u2 180 (fun z => .getfield z) 7 h rfl (zq_o_180 _) (by decide +kernel), ?_⟩
  replace h := zq_nx3 (q := 25) h rfl
  refine ⟨zq_k_s1 16 (fun z => .bipush z) 12 h rfl (zq_o_16 _) (by decide +kernel), ?_⟩
  replace h := zq_nx2 (q := 27) h rfl
  refine ⟨zq_k_n 27 h rfl (zq_o_27 _), ?_⟩
  replace h := zq_nx1 (q := 28) h rfl
  refine ⟨zq_k_n 96 h rfl (zq_o_96 _), ?_⟩
  replace h := zq_nx1 (q := 29) h rfl
  refine ⟨zq_k_n 46 h rfl (zq_o_46 _), ?_⟩
  replace h := zq_nx1 (q := 30) h rfl
  refine ⟨zq_k_s2 163 (fun z => .if_icmp .gt z) 17 h rfl (zq_o_163 _) (by decide +kernel), ?_⟩
  replace h := zq_nx3 (q := 33) h rfl
  refine ⟨zq_k_n 42 h rfl (zq_o_42 _), ?_⟩
  replace h := zq_nx1 (q := 34) h rfl
  refine ⟨zq_k_n 3 h rfl (zq_o_3 _), ?_⟩
  replace h := zq_nx1 (q := 35) h rfl
  refine ⟨zq_k_n 27 h rfl (zq_o_27 _), ?_⟩
  replace h := zq_nx1 (q := 36) h rfl
  refine ⟨zq_k_n 28 h rfl (zq_o_28 _), ?_⟩
  replace h := zq_nx1 (q := 37) h rfl
  refine ⟨zq_k_u2 182 (fun z => .invokevirtual z) 297 h rfl (zq_o_182 _) (by decide +kernel), ?_⟩
  replace h := zq_nx3 (q := 40) h rfl
  exact zq_k_s2 153 (fun z => .ifCond .eq z) 7 h rfl (zq_o_153 _) (by decide +kernel)
set_option maxRecDepth 100000 in
theorem dd_M_isTime_43 : (decode prog_10_method_78_code 43 = .ok (.iconst 1, 1)) ∧ (decode prog_10_method_78_code 44 = .ok (.goto 4, 3)) ∧ (decode prog_10_method_78_code 47 = .ok (.iconst 0, 1)) ∧ (decode prog_10_method_78_code 48 = .ok (.ireturn, 1)) := by
  have h : List.drop 43 prog_10_method_78_code.data.toList = 0x04 :: _ := rfl
  refine ⟨zq_k_n 4 h rfl (zq_o_4 _), ?_⟩
  replace h := zq_nx1 (q := 44) h rfl
  refine ⟨zq_k_s2 167 (fun z => .goto z) 4 h rfl (zq_o_167 _) (by decide +kernel), ?_⟩
  replace h := zq_nx3 (q := 47) h rfl
  refine ⟨zq_k_n 3 h rfl (zq_o_3 _), ?_⟩
  replace h := zq_nx1 (q := 48) h rfl
  exact zq_k_n 172 h rfl (zq_o_172 _)
def f_M_isTime_47   (h : mH) : Option (Int32 × mH) :=
  some ((0 : Int32), h)
set_option maxRecDepth 20000 in
theorem t_M_isTime_47 {sc : Nat × (Nat → Int32)}   (h : mH) (r : Int32) (h' : mH) (hf : f_M_isTime_47   h = some (r, h')) : G sc y_M_isTime prog_10_method_78_code 3 (some .boolean) 1 26 47 [] [] h (some (.int r)) h' := by
  unfold f_M_isTime_47 at hf
  refine g_iconst (pc := 47) (0 : Int32) dd_M_isTime_43.2.2.1 (by decide) ?_
  obtain ⟨rfl, rfl⟩ := ret2 hf
  exact g_zret (pc := 48) rfl rfl dd_M_isTime_43.2.2.2
def f_M_isTime_0  (a0 : Nat) (a1 : Int32) (a2 : Int32) (h : mH) : Option (Int32 × mH) :=
  bd1 (gI h a0 8 3) fun x1 =>
  if a1 < x1 then
    bd1 (gR h a0 8 0) fun x3 =>
    bd1 (aI h 0 x3 ((12 : Int32) + a1)) fun x5 =>
    if x5 < a2 then
      f_M_isTime_47  h
    else
      bd1 (kC h a0 8) fun _ =>
      bd2 (f_M_isSo a0 (0 : Int32) a1 a2 h) fun x11 h9 =>
      if x11 = 0 then
        f_M_isTime_47  h9
      else
        some ((1 : Int32), h9)
  else
    if a2 = 0 then
      some ((1 : Int32), h)
    else
      some ((0 : Int32), h)
set_option maxRecDepth 20000 in
theorem t_M_isTime_0 {sc : Nat × (Nat → Int32)}  (a0 : Nat) (a1 : Int32) (a2 : Int32) (h : mH) (r : Int32) (h' : mH) (hf : f_M_isTime_0  a0 a1 a2 h = some (r, h')) : G sc y_M_isTime prog_10_method_78_code 3 (some .boolean) 1 26 0 [(0, .ref a0), (1, .int a1), (2, .int a2)] [] h (some (.int r)) h' := by
  unfold f_M_isTime_0 at hf
  refine g_iload_n (pc := 0) 1 dd_M_isTime_0.1 rfl rfl ?_
  refine g_aload_n (pc := 1) 0 dd_M_isTime_0.2.1 rfl rfl ?_
  obtain ⟨x1, e2, hf⟩ := bd1_e hf
  refine g_get (pc := 2) (ci := 8) (kk := 3) dd_M_isTime_0.2.2.1 rfl in_M (by decide) wd_941 (gI_spec e2) ?_
  refine g_icmplt (pc := 5) 20 dd_M_isTime_0.2.2.2.1 (by decide) (fun c15 => ?_) (fun c15 => ?_)
  · replace hf := (if_pos c15).symm.trans hf
    refine g_iload_n (pc := 20) 2 dd_M_isTime_0.2.2.2.2.2.2.2.2.2.2.1 rfl rfl ?_
    refine g_aload_n (pc := 21) 0 dd_M_isTime_0.2.2.2.2.2.2.2.2.2.2.2.1 rfl rfl ?_
    obtain ⟨x3, e4, hf⟩ := bd1_e hf
    refine g_get (pc := 22) (ci := 8) (kk := 0) dd_M_isTime_0.2.2.2.2.2.2.2.2.2.2.2.2.1 rfl in_M (by decide) wd_938 (gR_spec e4) ?_
    refine g_bipush (pc := 25) (12 : Int32) dd_M_isTime_0.2.2.2.2.2.2.2.2.2.2.2.2.2.1 (by decide) ?_
    refine g_iload_n (pc := 27) 1 dd_M_isTime_0.2.2.2.2.2.2.2.2.2.2.2.2.2.2.1 rfl rfl ?_
    refine g_iadd (pc := 28) dd_M_isTime_0.2.2.2.2.2.2.2.2.2.2.2.2.2.2.2.1 ?_
    obtain ⟨x5, e6, hf⟩ := bd1_e hf
    refine g_iald (pc := 29) dd_M_isTime_0.2.2.2.2.2.2.2.2.2.2.2.2.2.2.2.2.1 e6 ?_
    refine g_icmpgt (pc := 30) 47 dd_M_isTime_0.2.2.2.2.2.2.2.2.2.2.2.2.2.2.2.2.2.1 (by decide) (fun c13 => ?_) (fun c13 => ?_)
    · replace hf := (if_pos c13).symm.trans hf
      refine g_lv [] rfl ?_
      exact t_M_isTime_47  _ _ _  hf
    · replace hf := (if_neg c13).symm.trans hf
      refine g_aload_n (pc := 33) 0 dd_M_isTime_0.2.2.2.2.2.2.2.2.2.2.2.2.2.2.2.2.2.2.1 rfl rfl ?_
      refine g_iconst (pc := 34) (0 : Int32) dd_M_isTime_0.2.2.2.2.2.2.2.2.2.2.2.2.2.2.2.2.2.2.2.1 (by decide) ?_
      refine g_iload_n (pc := 35) 1 dd_M_isTime_0.2.2.2.2.2.2.2.2.2.2.2.2.2.2.2.2.2.2.2.2.1 rfl rfl ?_
      refine g_iload_n (pc := 36) 2 dd_M_isTime_0.2.2.2.2.2.2.2.2.2.2.2.2.2.2.2.2.2.2.2.2.2.1 rfl rfl ?_
      obtain ⟨u8, e7, hf⟩ := bd1_e hf
      obtain ⟨x11, h9, e10, hf⟩ := bd2_e hf
      refine g_callV (pc := 37) (ci := 8) [.int (0 : Int32), .int a1, .int a2] (site_of si_M_isSo (by decide) (by decide)) wd_1353 wd_1355 wp_70 dd_M_isTime_0.2.2.2.2.2.2.2.2.2.2.2.2.2.2.2.2.2.2.2.2.2.2.1 rfl e7 (Nat.le_of_ble_eq_true rfl) (fun z => absurd z si_na_M_isSo) (fun z => absurd z si_na_M_isSo) (fun z => absurd z si_na_M_isSo) (c_M_isSo e10) rfl ?_
      refine g_st [.int x11] rfl ?_
      refine g_ifeq (pc := 40) 47 dd_M_isTime_0.2.2.2.2.2.2.2.2.2.2.2.2.2.2.2.2.2.2.2.2.2.2.2 (by decide) (fun c12 => ?_) (fun c12 => ?_)
      · replace hf := (if_pos c12).symm.trans hf
        refine g_lv [] rfl ?_
        exact t_M_isTime_47  _ _ _  hf
      · replace hf := (if_neg c12).symm.trans hf
        refine g_iconst (pc := 43) (1 : Int32) dd_M_isTime_43.1 (by decide) ?_
        refine g_goto (pc := 44) 48 dd_M_isTime_43.2.1 (by decide) ?_
        obtain ⟨rfl, rfl⟩ := ret2 hf
        exact g_zret (pc := 48) rfl rfl dd_M_isTime_43.2.2.2
  · replace hf := (if_neg c15).symm.trans hf
    refine g_iload_n (pc := 8) 2 dd_M_isTime_0.2.2.2.2.1 rfl rfl ?_
    refine g_ifne (pc := 9) 16 dd_M_isTime_0.2.2.2.2.2.1 (by decide) (fun c14 => ?_) (fun c14 => ?_)
    · replace hf := (if_neg c14).symm.trans hf
      refine g_iconst (pc := 16) (0 : Int32) dd_M_isTime_0.2.2.2.2.2.2.2.2.1 (by decide) ?_
      refine g_goto (pc := 17) 48 dd_M_isTime_0.2.2.2.2.2.2.2.2.2.1 (by decide) ?_
      obtain ⟨rfl, rfl⟩ := ret2 hf
      exact g_zret (pc := 48) rfl rfl dd_M_isTime_43.2.2.2
    · replace hf := (if_pos c14).symm.trans hf
      refine g_iconst (pc := 12) (1 : Int32) dd_M_isTime_0.2.2.2.2.2.2.1 (by decide) ?_
      refine g_goto (pc := 13) 48 dd_M_isTime_0.2.2.2.2.2.2.2.1 (by decide) ?_
      obtain ⟨rfl, rfl⟩ := ret2 hf
      exact g_zret (pc := 48) rfl rfl dd_M_isTime_43.2.2.2
def f_M_isTime (a0 : Nat) (a1 : Int32) (a2 : Int32) (h : mH) : Option (Int32 × mH) := f_M_isTime_0 a0 a1 a2 h
theorem c_M_isTime {sc : Nat × (Nat → Int32)} {a0 : Nat} {a1 : Int32} {a2 : Int32} {h : mH} {r : Int32} {h' : mH} (hf : f_M_isTime a0 a1 a2 h = some (r, h')) : MM sc y_M_isTime prog_10_method_78_code 3 (some .boolean) 1 26 [.ref a0, .int a1, .int a2] h (some (.int r)) h' :=
  mm_of_G si_pn_M (Nat.le_of_ble_eq_true rfl) (t_M_isTime_0 _ _ _ _ _ _ hf)
/-! M tablesBy (III)J -/
set_option maxRecDepth 100000 in
theorem dd_M_tablesBy_0 : (decode prog_10_method_79_code 0 = .ok (.iconst 0, 1)) ∧ (decode prog_10_method_79_code 1 = .ok (.istore 4, 2)) ∧ (decode prog_10_method_79_code 3 = .ok (.iload 4, 2)) ∧ (decode prog_10_method_79_code 5 = .ok (.sipush 216, 3)) ∧ (decode prog_10_method_79_code 8 = .ok (.if_icmp .ge 26, 3)) ∧ (decode prog_10_method_79_code 11 = .ok (.aload_n 0, 1)) ∧ (decode prog_10_method_79_code 12 = .ok (.getfield 72, 3)) ∧ (decode prog_10_method_79_code 15 = .ok (.iload 4, 2)) ∧ (decode prog_10_method_79_code 17 = .ok (.iload 4, 2)) ∧ (decode prog_10_method_79_code 19 = .ok (.ifCond .ne 7, 3)) ∧ (decode prog_10_method_79_code 22 = .ok (.lconst 1, 1)) ∧ (decode prog_10_method_79_code 23 = .ok (.goto 4, 3)) ∧ (decode prog_10_method_79_code 26 = .ok (.lconst 0, 1)) ∧ (decode prog_10_method_79_code 27 = .ok (.lastore, 1)) ∧ (decode prog_10_method_79_code 28 = .ok (.iinc 4 1, 3)) ∧ (decode prog_10_method_79_code 31 = .ok (.goto (-28), 3)) ∧ (decode prog_10_method_79_code 34 = .ok (.iconst 0, 1)) ∧ (decode prog_10_method_79_code 35 = .ok (.istore 4, 2)) ∧ (decode prog_10_method_79_code 37 = .ok (.iload 4, 2)) ∧ (decode prog_10_method_79_code 39 = .ok (.aload_n 0, 1)) ∧ (decode prog_10_method_79_code 40 = .ok (.getfield 106, 3)) ∧ (decode prog_10_method_79_code 43 = .ok (.if_icmp .ge 18, 3)) ∧ (decode prog_10_method_79_code 46 = .ok (.aload_n 0, 1)) ∧ (decode prog_10_method_79_code 47 = .ok (.iload 4, 2)) := by
  have h : List.drop 0 prog_10_method_79_code.data.toList = 0x03 :: _ := rfl
  refine ⟨zq_k_n 3 h rfl (zq_o_3 _), ?_⟩
  replace h := zq_nx1 (q := 1) h rfl
  refine ⟨zq_k_u1 54 (fun z => .istore z) 4 h rfl (zq_o_54 _) (by decide +kernel), ?_⟩
  replace h := zq_nx2 (q := 3) h rfl
  refine ⟨zq_k_u1 21 (fun z => .iload z) 4 h rfl (zq_o_21 _) (by decide +kernel), ?_⟩
  replace h := zq_nx2 (q := 5) h rfl
  refine ⟨zq_k_s2 17 (fun z => .sipush z) 216 h rfl (zq_o_17 _) (by decide +kernel), ?_⟩
  replace h := zq_nx3 (q := 8) h rfl
  refine ⟨zq_k_s2 162 (fun z => .if_icmp .ge z) 26 h rfl (zq_o_162 _) (by decide +kernel), ?_⟩
  replace h := zq_nx3 (q := 11) h rfl
  refine ⟨zq_k_n 42 h rfl (zq_o_42 _), ?_⟩
  replace h := zq_nx1 (q := 12) h rfl
  refine ⟨zq_k_u2 180 (fun z => .getfield z) 72 h rfl (zq_o_180 _) (by decide +kernel), ?_⟩
  replace h := zq_nx3 (q := 15) h rfl
  refine ⟨zq_k_u1 21 (fun z => .iload z) 4 h rfl (zq_o_21 _) (by decide +kernel), ?_⟩
  replace h := zq_nx2 (q := 17) h rfl
  refine ⟨zq_k_u1 21 (fun z => .iload z) 4 h rfl (zq_o_21 _) (by decide +kernel), ?_⟩
  replace h := zq_nx2 (q := 19) h rfl
  refine ⟨zq_k_s2 154 (fun z => .ifCond .ne z) 7 h rfl (zq_o_154 _) (by decide +kernel), ?_⟩
  replace h := zq_nx3 (q := 22) h rfl
  refine ⟨zq_k_n 10 h rfl (zq_o_10 _), ?_⟩
  replace h := zq_nx1 (q := 23) h rfl
  refine ⟨zq_k_s2 167 (fun z => .goto z) 4 h rfl (zq_o_167 _) (by decide +kernel), ?_⟩
  replace h := zq_nx3 (q := 26) h rfl
  refine ⟨zq_k_n 9 h rfl (zq_o_9 _), ?_⟩
  replace h := zq_nx1 (q := 27) h rfl
  refine ⟨zq_k_n 80 h rfl (zq_o_80 _), ?_⟩
  replace h := zq_nx1 (q := 28) h rfl
  refine ⟨zq_k_iinc 4 1 h rfl (zq_o_132 _) (by decide +kernel) (by decide +kernel), ?_⟩
  replace h := zq_nx3 (q := 31) h rfl
  refine ⟨zq_k_s2 167 (fun z => .goto z) (-28) h rfl (zq_o_167 _) (by decide +kernel), ?_⟩
  replace h := zq_nx3 (q := 34) h rfl
  refine ⟨zq_k_n 3 h rfl (zq_o_3 _), ?_⟩
  replace h := zq_nx1 (q := 35) h rfl
  refine ⟨zq_k_u1 54 (fun z => .istore z) 4 h rfl (zq_o_54 _) (by decide +kernel), ?_⟩
  replace h := zq_nx2 (q := 37) h rfl
  refine ⟨zq_k_u1 21 (fun z => .iload z) 4 h rfl (zq_o_21 _) (by decide +kernel), ?_⟩
  replace h := zq_nx2 (q := 39) h rfl
  refine ⟨zq_k_n 42 h rfl (zq_o_42 _), ?_⟩
  replace h := zq_nx1 (q := 40) h rfl
  refine ⟨zq_k_u2 180 (fun z => .getfield z) 106 h rfl (zq_o_180 _) (by decide +kernel), ?_⟩
  replace h := zq_nx3 (q := 43) h rfl
  refine ⟨zq_k_s2 162 (fun z => .if_icmp .ge z) 18 h rfl (zq_o_162 _) (by decide +kernel), ?_⟩
  replace h := zq_nx3 (q := 46) h rfl
  refine ⟨zq_k_n 42 h rfl (zq_o_42 _), ?_⟩
  replace h := zq_nx1 (q := 47) h rfl
  exact zq_k_u1 21 (fun z => .iload z) 4 h rfl (zq_o_21 _) (by decide +kernel)
set_option maxRecDepth 100000 in
theorem dd_M_tablesBy_49 : (decode prog_10_method_79_code 49 = .ok (.iload_n 1, 1)) ∧ (decode prog_10_method_79_code 50 = .ok (.iload_n 2, 1)) ∧ (decode prog_10_method_79_code 51 = .ok (.iload_n 3, 1)) ∧ (decode prog_10_method_79_code 52 = .ok (.invokevirtual 309, 3)) ∧ (decode prog_10_method_79_code 55 = .ok (.iinc 4 1, 3)) ∧ (decode prog_10_method_79_code 58 = .ok (.goto (-21), 3)) ∧ (decode prog_10_method_79_code 61 = .ok (.lconst 0, 1)) ∧ (decode prog_10_method_79_code 62 = .ok (.lstore 4, 2)) ∧ (decode prog_10_method_79_code 64 = .ok (.iconst 0, 1)) ∧ (decode prog_10_method_79_code 65 = .ok (.istore 6, 2)) ∧ (decode prog_10_method_79_code 67 = .ok (.iload 6, 2)) ∧ (decode prog_10_method_79_code 69 = .ok (.sipush 216, 3)) ∧ (decode prog_10_method_79_code 72 = .ok (.if_icmp .ge 67, 3)) ∧ (decode prog_10_method_79_code 75 = .ok (.lload 4, 2)) ∧ (decode prog_10_method_79_code 77 = .ok (.aload_n 0, 1)) ∧ (decode prog_10_method_79_code 78 = .ok (.iconst 0, 1)) ∧ (decode prog_10_method_79_code 79 = .ok (.iload 6, 2)) ∧ (decode prog_10_method_79_code 81 = .ok (.bipush 36, 2)) ∧ (decode prog_10_method_79_code 83 = .ok (.idiv, 1)) ∧ (decode prog_10_method_79_code 84 = .ok (.invokevirtual 312, 3)) ∧ (decode prog_10_method_79_code 87 = .ok (.ifCond .eq 42, 3)) ∧ (decode prog_10_method_79_code 90 = .ok (.aload_n 0, 1)) ∧ (decode prog_10_method_79_code 91 = .ok (.iconst 1, 1)) ∧ (decode prog_10_method_79_code 92 = .ok (.iload 6, 2)) := by
  have h : List.drop 49 prog_10_method_79_code.data.toList = 0x1b :: _ := rfl
  refine ⟨zq_k_n 27 h rfl (zq_o_27 _), ?_⟩
  replace h := zq_nx1 (q := 50) h rfl
  refine ⟨zq_k_n 28 h rfl (zq_o_28 _), ?_⟩
  replace h := zq_nx1 (q := 51) h rfl
  refine ⟨zq_k_n 29 h rfl (zq_o_29 _), ?_⟩
  replace h := zq_nx1 (q := 52) h rfl
  refine ⟨zq_k_u2 182 (fun z => .invokevirtual z) 309 h rfl (zq_o_182 _) (by decide +kernel), ?_⟩
  replace h := zq_nx3 (q := 55) h rfl
  refine ⟨zq_k_iinc 4 1 h rfl (zq_o_132 _) (by decide +kernel) (by decide +kernel), ?_⟩
  replace h := zq_nx3 (q := 58) h rfl
  refine ⟨zq_k_s2 167 (fun z => .goto z) (-21) h rfl (zq_o_167 _) (by decide +kernel), ?_⟩
  replace h := zq_nx3 (q := 61) h rfl
  refine ⟨zq_k_n 9 h rfl (zq_o_9 _), ?_⟩
  replace h := zq_nx1 (q := 62) h rfl
  refine ⟨zq_k_u1 55 (fun z => .lstore z) 4 h rfl (zq_o_55 _) (by decide +kernel), ?_⟩
  replace h := zq_nx2 (q := 64) h rfl
  refine ⟨zq_k_n 3 h rfl (zq_o_3 _), ?_⟩
  replace h := zq_nx1 (q := 65) h rfl
  refine ⟨zq_k_u1 54 (fun z => .istore z) 6 h rfl (zq_o_54 _) (by decide +kernel), ?_⟩
  replace h := zq_nx2 (q := 67) h rfl
  refine ⟨zq_k_u1 21 (fun z => .iload z) 6 h rfl (zq_o_21 _) (by decide +kernel), ?_⟩
  replace h := zq_nx2 (q := 69) h rfl
  refine ⟨zq_k_s2 17 (fun z => .sipush z) 216 h rfl (zq_o_17 _) (by decide +kernel), ?_⟩
  replace h := zq_nx3 (q := 72) h rfl
  refine ⟨zq_k_s2 162 (fun z => .if_icmp .ge z) 67 h rfl (zq_o_162 _) (by decide +kernel), ?_⟩
  replace h := zq_nx3 (q := 75) h rfl
  refine ⟨zq_k_u1 22 (fun z => .lload z) 4 h rfl (zq_o_22 _) (by decide +kernel), ?_⟩
  replace h := zq_nx2 (q := 77) h rfl
  refine ⟨zq_k_n 42 h rfl (zq_o_42 _), ?_⟩
  replace h := zq_nx1 (q := 78) h rfl
  refine ⟨zq_k_n 3 h rfl (zq_o_3 _), ?_⟩
  replace h := zq_nx1 (q := 79) h rfl
  refine ⟨zq_k_u1 21 (fun z => .iload z) 6 h rfl (zq_o_21 _) (by decide +kernel), ?_⟩
  replace h := zq_nx2 (q := 81) h rfl
  refine ⟨zq_k_s1 16 (fun z => .bipush z) 36 h rfl (zq_o_16 _) (by decide +kernel), ?_⟩
  replace h := zq_nx2 (q := 83) h rfl
  refine ⟨zq_k_n 108 h rfl (zq_o_108 _), ?_⟩
  replace h := zq_nx1 (q := 84) h rfl
  refine ⟨zq_k_u2 182 (fun z => .invokevirtual z) 312 h rfl (zq_o_182 _) (by decide +kernel), ?_⟩
  replace h := zq_nx3 (q := 87) h rfl
  refine ⟨zq_k_s2 153 (fun z => .ifCond .eq z) 42 h rfl (zq_o_153 _) (by decide +kernel), ?_⟩
  replace h := zq_nx3 (q := 90) h rfl
  refine ⟨zq_k_n 42 h rfl (zq_o_42 _), ?_⟩
  replace h := zq_nx1 (q := 91) h rfl
  refine ⟨zq_k_n 4 h rfl (zq_o_4 _), ?_⟩
  replace h := zq_nx1 (q := 92) h rfl
  exact zq_k_u1 21 (fun z => .iload z) 6 h rfl (zq_o_21 _) (by decide +kernel)
set_option maxRecDepth 100000 in
theorem dd_M_tablesBy_94 : (decode prog_10_method_79_code 94 = .ok (.bipush 6, 2)) ∧ (decode prog_10_method_79_code 96 = .ok (.idiv, 1)) ∧ (decode prog_10_method_79_code 97 = .ok (.bipush 6, 2)) ∧ (decode prog_10_method_79_code 99 = .ok (.irem, 1)) ∧ (decode prog_10_method_79_code 100 = .ok (.invokevirtual 312, 3)) ∧ (decode prog_10_method_79_code 103 = .ok (.ifCond .eq 26, 3)) ∧ (decode prog_10_method_79_code 106 = .ok (.aload_n 0, 1)) ∧ (decode prog_10_method_79_code 107 = .ok (.iconst 2, 1)) ∧ (decode prog_10_method_79_code 108 = .ok (.iload 6, 2)) ∧ (decode prog_10_method_79_code 110 = .ok (.bipush 6, 2)) ∧ (decode prog_10_method_79_code 112 = .ok (.irem, 1)) ∧ (decode prog_10_method_79_code 113 = .ok (.invokevirtual 312, 3)) ∧ (decode prog_10_method_79_code 116 = .ok (.ifCond .eq 13, 3)) ∧ (decode prog_10_method_79_code 119 = .ok (.aload_n 0, 1)) ∧ (decode prog_10_method_79_code 120 = .ok (.getfield 72, 3)) ∧ (decode prog_10_method_79_code 123 = .ok (.iload 6, 2)) ∧ (decode prog_10_method_79_code 125 = .ok (.laload, 1)) ∧ (decode prog_10_method_79_code 126 = .ok (.goto 4, 3)) ∧ (decode prog_10_method_79_code 129 = .ok (.lconst 0, 1)) ∧ (decode prog_10_method_79_code 130 = .ok (.ladd, 1)) ∧ (decode prog_10_method_79_code 131 = .ok (.lstore 4, 2)) ∧ (decode prog_10_method_79_code 133 = .ok (.iinc 6 1, 3)) ∧ (decode prog_10_method_79_code 136 = .ok (.goto (-69), 3)) ∧ (decode prog_10_method_79_code 139 = .ok (.lload 4, 2)) := by
  have h : List.drop 94 prog_10_method_79_code.data.toList = 0x10 :: _ := rfl
  refine ⟨zq_k_s1 16 (fun z => .bipush z) 6 h rfl (zq_o_16 _) (by decide +kernel), ?_⟩
  replace h := zq_nx2 (q := 96) h rfl
  refine ⟨zq_k_n 108 h rfl (zq_o_108 _), ?_⟩
  replace h := zq_nx1 (q := 97) h rfl
  refine ⟨zq_k_s1 16 (fun z => .bipush z) 6 h rfl (zq_o_16 _) (by decide +kernel), ?_⟩
  replace h := zq_nx2 (q := 99) h rfl
  refine ⟨zq_k_n 112 h rfl (zq_o_112 _), ?_⟩
  replace h := zq_nx1 (q := 100) h rfl
  refine ⟨zq_k_u2 182 (fun z => .invokevirtual z) 312 h rfl (zq_o_182 _) (by decide +kernel), ?_⟩
  replace h := zq_nx3 (q := 103) h rfl
  refine ⟨zq_k_s2 153 (fun z => .ifCond .eq z) 26 h rfl (zq_o_153 _) (by decide +kernel), ?_⟩
  replace h := zq_nx3 (q := 106) h rfl
  refine ⟨zq_k_n 42 h rfl (zq_o_42 _), ?_⟩
  replace h := zq_nx1 (q := 107) h rfl
  refine ⟨zq_k_n 5 h rfl (zq_o_5 _), ?_⟩
  replace h := zq_nx1 (q := 108) h rfl
  refine ⟨zq_k_u1 21 (fun z => .iload z) 6 h rfl (zq_o_21 _) (by decide +kernel), ?_⟩
  replace h := zq_nx2 (q := 110) h rfl
  refine ⟨zq_k_s1 16 (fun z => .bipush z) 6 h rfl (zq_o_16 _) (by decide +kernel), ?_⟩
  replace h := zq_nx2 (q := 112) h rfl
  refine ⟨zq_k_n 112 h rfl (zq_o_112 _), ?_⟩
  replace h := zq_nx1 (q := 113) h rfl
  refine ⟨zq_k_u2 182 (fun z => .invokevirtual z) 312 h rfl (zq_o_182 _) (by decide +kernel), ?_⟩
  replace h := zq_nx3 (q := 116) h rfl
  refine ⟨zq_k_s2 153 (fun z => .ifCond .eq z) 13 h rfl (zq_o_153 _) (by decide +kernel), ?_⟩
  replace h := zq_nx3 (q := 119) h rfl
  refine ⟨zq_k_n 42 h rfl (zq_o_42 _), ?_⟩
  replace h := zq_nx1 (q := 120) h rfl
  refine ⟨zq_k_u2 180 (fun z => .getfield z) 72 h rfl (zq_o_180 _) (by decide +kernel), ?_⟩
  replace h := zq_nx3 (q := 123) h rfl
  refine ⟨zq_k_u1 21 (fun z => .iload z) 6 h rfl (zq_o_21 _) (by decide +kernel), ?_⟩
  replace h := zq_nx2 (q := 125) h rfl
  refine ⟨zq_k_n 47 h rfl (zq_o_47 _), ?_⟩
  replace h := zq_nx1 (q := 126) h rfl
  refine ⟨zq_k_s2 167 (fun z => .goto z) 4 h rfl (zq_o_167 _) (by decide +kernel), ?_⟩
  replace h := zq_nx3 (q := 129) h rfl
  refine ⟨zq_k_n 9 h rfl (zq_o_9 _), ?_⟩
  replace h := zq_nx1 (q := 130) h rfl
  refine ⟨zq_k_n 97 h rfl (zq_o_97 _), ?_⟩
  replace h := zq_nx1 (q := 131) h rfl
  refine ⟨zq_k_u1 55 (fun z => .lstore z) 4 h rfl (zq_o_55 _) (by decide +kernel), ?_⟩
  replace h := zq_nx2 (q := 133) h rfl
  refine ⟨zq_k_iinc 6 1 h rfl (zq_o_132 _) (by decide +kernel) (by decide +kernel), ?_⟩
  replace h := zq_nx3 (q := 136) h rfl
  refine ⟨zq_k_s2 167 (fun z => .goto z) (-69) h rfl (zq_o_167 _) (by decide +kernel), ?_⟩
  replace h := zq_nx3 (q := 139) h rfl
  exact zq_k_u1 22 (fun z => .lload z) 4 h rfl (zq_o_22 _) (by decide +kernel)
set_option maxRecDepth 100000 in
theorem dd_M_tablesBy_141 : decode prog_10_method_79_code 141 = .ok (.lreturn, 1) := by
  have h : List.drop 141 prog_10_method_79_code.data.toList = 0xad :: _ := rfl
  exact zq_k_n 173 h rfl (zq_o_173 _)
def f_M_tablesBy_130 (rec67 : Nat → Int64 → Int32 → mH → Option (Int64 × mH)) (b0 : Nat) (b6 : Int32) (s0 : Int64) (s1 : Int64) (h : mH) : Option (Int64 × mH) :=
  rec67 b0 (s0 + s1) (b6 + (1 : Int32)) h
set_option maxRecDepth 20000 in
theorem t_M_tablesBy_130 {sc : Nat × (Nat → Int32)} (rec67 : Nat → Int64 → Int32 → mH → Option (Int64 × mH)) (hrec67 : ∀ (b0 : Nat) (b4 : Int64) (b6 : Int32) (h : mH) (r : Int64) (h' : mH), rec67 b0 b4 b6 h = some (r, h') → G sc y_M_tablesBy prog_10_method_79_code 7 (some .long) 2 55 67 [(0, .ref b0), (4, .long b4), (6, .int b6)] [] h (some (.long r)) h') (b0 : Nat) (b6 : Int32) (s0 : Int64) (s1 : Int64) (h : mH) (r : Int64) (h' : mH) (hf : f_M_tablesBy_130 rec67 b0 b6 s0 s1 h = some (r, h')) : G sc y_M_tablesBy prog_10_method_79_code 7 (some .long) 2 55 130 [(0, .ref b0), (6, .int b6)] [.long s1, .long s0] h (some (.long r)) h' := by
  unfold f_M_tablesBy_130 at hf
  refine g_ladd (pc := 130) dd_M_tablesBy_94.2.2.2.2.2.2.2.2.2.2.2.2.2.2.2.2.2.2.2.1 ?_
  refine g_lstore (pc := 131) [(4, .long (s0 + s1)), (0, .ref b0), (6, .int b6)] dd_M_tablesBy_94.2.2.2.2.2.2.2.2.2.2.2.2.2.2.2.2.2.2.2.2.1 (Nat.le_of_ble_eq_true rfl) rfl ?_
  refine g_iinc (pc := 133) 2 (b6 + (1 : Int32)) [(6, .int (b6 + (1 : Int32))), (4, .long (s0 + s1)), (0, .ref b0)] dd_M_tablesBy_94.2.2.2.2.2.2.2.2.2.2.2.2.2.2.2.2.2.2.2.2.2.1 rfl rfl (Nat.le_of_ble_eq_true rfl) rfl ?_
  refine g_goto (pc := 136) 67 dd_M_tablesBy_94.2.2.2.2.2.2.2.2.2.2.2.2.2.2.2.2.2.2.2.2.2.2.1 (by decide) ?_
  refine g_lv [2, 1, 0] rfl ?_
  exact hrec67 _ _ _ _ _ _  hf
def f_M_tablesBy_129 (rec67 : Nat → Int64 → Int32 → mH → Option (Int64 × mH)) (b0 : Nat) (b6 : Int32) (s0 : Int64) (h : mH) : Option (Int64 × mH) :=
  f_M_tablesBy_130 rec67 b0 b6 s0 (0 : Int64) h
set_option maxRecDepth 20000 in
theorem t_M_tablesBy_129 {sc : Nat × (Nat → Int32)} (rec67 : Nat → Int64 → Int32 → mH → Option (Int64 × mH)) (hrec67 : ∀ (b0 : Nat) (b4 : Int64) (b6 : Int32) (h : mH) (r : Int64) (h' : mH), rec67 b0 b4 b6 h = some (r, h') → G sc y_M_tablesBy prog_10_method_79_code 7 (some .long) 2 55 67 [(0, .ref b0), (4, .long b4), (6, .int b6)] [] h (some (.long r)) h') (b0 : Nat) (b6 : Int32) (s0 : Int64) (h : mH) (r : Int64) (h' : mH) (hf : f_M_tablesBy_129 rec67 b0 b6 s0 h = some (r, h')) : G sc y_M_tablesBy prog_10_method_79_code 7 (some .long) 2 55 129 [(0, .ref b0), (6, .int b6)] [.long s0] h (some (.long r)) h' := by
  unfold f_M_tablesBy_129 at hf
  refine g_lconst (pc := 129) (0 : Int64) dd_M_tablesBy_94.2.2.2.2.2.2.2.2.2.2.2.2.2.2.2.2.2.2.1 (by decide) ?_
  refine g_lv [0, 1] rfl ?_
  exact t_M_tablesBy_130 rec67 hrec67 _ _ _ _ _ _ _  hf
def f_M_tablesBy_67b (rec67 : Nat → Int64 → Int32 → mH → Option (Int64 × mH)) (b0 : Nat) (b4 : Int64) (b6 : Int32) (h : mH) : Option (Int64 × mH) :=
  if (216 : Int32) ≤ b6 then
    some (b4, h)
  else
    bd1 (kC h b0 8) fun _ =>
    bd2 (f_M_isTime b0 (0 : Int32) (b6 / (36 : Int32)) h) fun x18 h16 =>
    if x18 = 0 then
      f_M_tablesBy_129 rec67 b0 b6 b4 h16
    else
      bd1 (kC h16 b0 8) fun _ =>
      bd2 (f_M_isTime b0 (1 : Int32) ((b6 / (6 : Int32)) - (b6 / (6 : Int32)) / (6 : Int32) * (6 : Int32)) h16) fun x23 h21 =>
      if x23 = 0 then
        f_M_tablesBy_129 rec67 b0 b6 b4 h21
      else
        bd1 (kC h21 b0 8) fun _ =>
        bd2 (f_M_isTime b0 (2 : Int32) (b6 - b6 / (6 : Int32) * (6 : Int32)) h21) fun x28 h26 =>
        if x28 = 0 then
          f_M_tablesBy_129 rec67 b0 b6 b4 h26
        else
          bd1 (gR h26 b0 8 33) fun x29 =>
          bd1 (aL h26 x29 b6) fun x31 =>
          f_M_tablesBy_130 rec67 b0 b6 b4 x31 h26
set_option maxRecDepth 20000 in
theorem t_M_tablesBy_67b {sc : Nat × (Nat → Int32)} (rec67 : Nat → Int64 → Int32 → mH → Option (Int64 × mH)) (hrec67 : ∀ (b0 : Nat) (b4 : Int64) (b6 : Int32) (h : mH) (r : Int64) (h' : mH), rec67 b0 b4 b6 h = some (r, h') → G sc y_M_tablesBy prog_10_method_79_code 7 (some .long) 2 55 67 [(0, .ref b0), (4, .long b4), (6, .int b6)] [] h (some (.long r)) h') (b0 : Nat) (b4 : Int64) (b6 : Int32) (h : mH) (r : Int64) (h' : mH) (hf : f_M_tablesBy_67b rec67 b0 b4 b6 h = some (r, h')) : G sc y_M_tablesBy prog_10_method_79_code 7 (some .long) 2 55 67 [(0, .ref b0), (4, .long b4), (6, .int b6)] [] h (some (.long r)) h' := by
  unfold f_M_tablesBy_67b at hf
  refine g_iload (pc := 67) 2 dd_M_tablesBy_49.2.2.2.2.2.2.2.2.2.2.1 rfl ?_
  refine g_sipush (pc := 69) (216 : Int32) dd_M_tablesBy_49.2.2.2.2.2.2.2.2.2.2.2.1 (by decide) ?_
  refine g_icmpge (pc := 72) 139 dd_M_tablesBy_49.2.2.2.2.2.2.2.2.2.2.2.2.1 (by decide) (fun c36 => ?_) (fun c36 => ?_)
  · replace hf := (if_pos c36).symm.trans hf
    refine g_lload (pc := 139) 1 dd_M_tablesBy_94.2.2.2.2.2.2.2.2.2.2.2.2.2.2.2.2.2.2.2.2.2.2.2 rfl ?_
    obtain ⟨rfl, rfl⟩ := ret2 hf
    exact g_lret (pc := 141) rfl dd_M_tablesBy_141
  · replace hf := (if_neg c36).symm.trans hf
    refine g_lload (pc := 75) 1 dd_M_tablesBy_49.2.2.2.2.2.2.2.2.2.2.2.2.2.1 rfl ?_
    refine g_aload_n (pc := 77) 0 dd_M_tablesBy_49.2.2.2.2.2.2.2.2.2.2.2.2.2.2.1 rfl rfl ?_
    refine g_iconst (pc := 78) (0 : Int32) dd_M_tablesBy_49.2.2.2.2.2.2.2.2.2.2.2.2.2.2.2.1 (by decide) ?_
    refine g_iload (pc := 79) 2 dd_M_tablesBy_49.2.2.2.2.2.2.2.2.2.2.2.2.2.2.2.2.1 rfl ?_
    refine g_bipush (pc := 81) (36 : Int32) dd_M_tablesBy_49.2.2.2.2.2.2.2.2.2.2.2.2.2.2.2.2.2.1 (by decide) ?_
    refine g_idiv (pc := 83) dd_M_tablesBy_49.2.2.2.2.2.2.2.2.2.2.2.2.2.2.2.2.2.2.1 (by decide) ?_
    obtain ⟨u15, e14, hf⟩ := bd1_e hf
    obtain ⟨x18, h16, e17, hf⟩ := bd2_e hf
    refine g_callV (pc := 84) (ci := 8) [.int (0 : Int32), .int (b6 / (36 : Int32))] (site_of si_M_isTime (by decide) (by decide)) wd_1365 wd_1367 wp_73 dd_M_tablesBy_49.2.2.2.2.2.2.2.2.2.2.2.2.2.2.2.2.2.2.2.1 rfl e14 (Nat.le_of_ble_eq_true rfl) (fun z => absurd z si_na_M_isTime) (fun z => absurd z si_na_M_isTime) (fun z => absurd z si_na_M_isTime) (c_M_isTime e17) rfl ?_
    refine g_st [.int x18, .long b4] rfl ?_
    refine g_ifeq (pc := 87) 129 dd_M_tablesBy_49.2.2.2.2.2.2.2.2.2.2.2.2.2.2.2.2.2.2.2.2.1 (by decide) (fun c35 => ?_) (fun c35 => ?_)
    · replace hf := (if_pos c35).symm.trans hf
      refine g_lv [0, 2] rfl ?_
      exact t_M_tablesBy_129 rec67 hrec67 _ _ _ _ _ _  hf
    · replace hf := (if_neg c35).symm.trans hf
      refine g_aload_n (pc := 90) 0 dd_M_tablesBy_49.2.2.2.2.2.2.2.2.2.2.2.2.2.2.2.2.2.2.2.2.2.1 rfl rfl ?_
      refine g_iconst (pc := 91) (1 : Int32) dd_M_tablesBy_49.2.2.2.2.2.2.2.2.2.2.2.2.2.2.2.2.2.2.2.2.2.2.1 (by decide) ?_
      refine g_iload (pc := 92) 2 dd_M_tablesBy_49.2.2.2.2.2.2.2.2.2.2.2.2.2.2.2.2.2.2.2.2.2.2.2 rfl ?_
      refine g_bipush (pc := 94) (6 : Int32) dd_M_tablesBy_94.1 (by decide) ?_
      refine g_idiv (pc := 96) dd_M_tablesBy_94.2.1 (by decide) ?_
      refine g_bipush (pc := 97) (6 : Int32) dd_M_tablesBy_94.2.2.1 (by decide) ?_
      refine g_irem (pc := 99) dd_M_tablesBy_94.2.2.2.1 (by decide) ?_
      obtain ⟨u20, e19, hf⟩ := bd1_e hf
      obtain ⟨x23, h21, e22, hf⟩ := bd2_e hf
      refine g_callV (pc := 100) (ci := 8) [.int (1 : Int32), .int ((b6 / (6 : Int32)) - (b6 / (6 : Int32)) / (6 : Int32) * (6 : Int32))] (site_of si_M_isTime (by decide) (by decide)) wd_1365 wd_1367 wp_73 dd_M_tablesBy_94.2.2.2.2.1 rfl e19 (Nat.le_of_ble_eq_true rfl) (fun z => absurd z si_na_M_isTime) (fun z => absurd z si_na_M_isTime) (fun z => absurd z si_na_M_isTime) (c_M_isTime e22) rfl ?_
      refine g_st [.int x23, .long b4] rfl ?_
      refine g_ifeq (pc := 103) 129 dd_M_tablesBy_94.2.2.2.2.2.1 (by decide) (fun c34 => ?_) (fun c34 => ?_)
      · replace hf := (if_pos c34).symm.trans hf
        refine g_lv [0, 2] rfl ?_
        exact t_M_tablesBy_129 rec67 hrec67 _ _ _ _ _ _  hf
      · replace hf := (if_neg c34).symm.trans hf
        refine g_aload_n (pc := 106) 0 dd_M_tablesBy_94.2.2.2.2.2.2.1 rfl rfl ?_
        refine g_iconst (pc := 107) (2 : Int32) dd_M_tablesBy_94.2.2.2.2.2.2.2.1 (by decide) ?_
        refine g_iload (pc := 108) 2 dd_M_tablesBy_94.2.2.2.2.2.2.2.2.1 rfl ?_
        refine g_bipush (pc := 110) (6 : Int32) dd_M_tablesBy_94.2.2.2.2.2.2.2.2.2.1 (by decide) ?_
        refine g_irem (pc := 112) dd_M_tablesBy_94.2.2.2.2.2.2.2.2.2.2.1 (by decide) ?_
        obtain ⟨u25, e24, hf⟩ := bd1_e hf
        obtain ⟨x28, h26, e27, hf⟩ := bd2_e hf
        refine g_callV (pc := 113) (ci := 8) [.int (2 : Int32), .int (b6 - b6 / (6 : Int32) * (6 : Int32))] (site_of si_M_isTime (by decide) (by decide)) wd_1365 wd_1367 wp_73 dd_M_tablesBy_94.2.2.2.2.2.2.2.2.2.2.2.1 rfl e24 (Nat.le_of_ble_eq_true rfl) (fun z => absurd z si_na_M_isTime) (fun z => absurd z si_na_M_isTime) (fun z => absurd z si_na_M_isTime) (c_M_isTime e27) rfl ?_
        refine g_st [.int x28, .long b4] rfl ?_
        refine g_ifeq (pc := 116) 129 dd_M_tablesBy_94.2.2.2.2.2.2.2.2.2.2.2.2.1 (by decide) (fun c33 => ?_) (fun c33 => ?_)
        · replace hf := (if_pos c33).symm.trans hf
          refine g_lv [0, 2] rfl ?_
          exact t_M_tablesBy_129 rec67 hrec67 _ _ _ _ _ _  hf
        · replace hf := (if_neg c33).symm.trans hf
          refine g_aload_n (pc := 119) 0 dd_M_tablesBy_94.2.2.2.2.2.2.2.2.2.2.2.2.2.1 rfl rfl ?_
          obtain ⟨x29, e30, hf⟩ := bd1_e hf
          refine g_get (pc := 120) (ci := 8) (kk := 33) dd_M_tablesBy_94.2.2.2.2.2.2.2.2.2.2.2.2.2.2.1 rfl in_M (by decide) wd_971 (gR_spec e30) ?_
          refine g_iload (pc := 123) 2 dd_M_tablesBy_94.2.2.2.2.2.2.2.2.2.2.2.2.2.2.2.1 rfl ?_
          obtain ⟨x31, e32, hf⟩ := bd1_e hf
          refine g_lald (pc := 125) dd_M_tablesBy_94.2.2.2.2.2.2.2.2.2.2.2.2.2.2.2.2.1 e32 ?_
          refine g_goto (pc := 126) 130 dd_M_tablesBy_94.2.2.2.2.2.2.2.2.2.2.2.2.2.2.2.2.2.1 (by decide) ?_
          refine g_lv [0, 2] rfl ?_
          exact t_M_tablesBy_130 rec67 hrec67 _ _ _ _ _ _ _  hf
def f_M_tablesBy_67  : Nat → Nat → Int64 → Int32 → mH → Option (Int64 × mH)
  | 0 => fun _ _ _ _ => none
  | n + 1 => f_M_tablesBy_67b  (f_M_tablesBy_67  n)
theorem t_M_tablesBy_67 {sc : Nat × (Nat → Int32)}  : ∀ (n : Nat) (b0 : Nat) (b4 : Int64) (b6 : Int32) (h : mH) (r : Int64) (h' : mH) (hf : f_M_tablesBy_67  n b0 b4 b6 h = some (r, h')), G sc y_M_tablesBy prog_10_method_79_code 7 (some .long) 2 55 67 [(0, .ref b0), (4, .long b4), (6, .int b6)] [] h (some (.long r)) h'
  | 0, _, _, _, _, _, _, hf => by cases hf
  | n + 1, _, _, _, _, _, _, hf => t_M_tablesBy_67b  (f_M_tablesBy_67  n) (t_M_tablesBy_67  n) _ _ _ _ _ _ hf
def f_M_tablesBy_37b (rec37 : Nat → Int32 → Int32 → Int32 → Int32 → mH → Option (Int64 × mH)) (b0 : Nat) (b1 : Int32) (b2 : Int32) (b3 : Int32) (b4 : Int32) (h : mH) : Option (Int64 × mH) :=
  bd1 (gI h b0 8 2) fun x7 =>
  if x7 ≤ b4 then
    f_M_tablesBy_67  FU b0 (0 : Int64) (0 : Int32) h
  else
    bd1 (kC h b0 8) fun _ =>
    bd1 (f_M_addsLaw b0 b4 b1 b2 b3 h) fun h11 =>
    rec37 b0 b1 b2 b3 (b4 + (1 : Int32)) h11
set_option maxRecDepth 20000 in
theorem t_M_tablesBy_37b {sc : Nat × (Nat → Int32)} (rec37 : Nat → Int32 → Int32 → Int32 → Int32 → mH → Option (Int64 × mH)) (hrec37 : ∀ (b0 : Nat) (b1 : Int32) (b2 : Int32) (b3 : Int32) (b4 : Int32) (h : mH) (r : Int64) (h' : mH), rec37 b0 b1 b2 b3 b4 h = some (r, h') → G sc y_M_tablesBy prog_10_method_79_code 7 (some .long) 2 55 37 [(0, .ref b0), (1, .int b1), (2, .int b2), (3, .int b3), (4, .int b4)] [] h (some (.long r)) h') (b0 : Nat) (b1 : Int32) (b2 : Int32) (b3 : Int32) (b4 : Int32) (h : mH) (r : Int64) (h' : mH) (hf : f_M_tablesBy_37b rec37 b0 b1 b2 b3 b4 h = some (r, h')) : G sc y_M_tablesBy prog_10_method_79_code 7 (some .long) 2 55 37 [(0, .ref b0), (1, .int b1), (2, .int b2), (3, .int b3), (4, .int b4)] [] h (some (.long r)) h' := by
  unfold f_M_tablesBy_37b at hf
  refine g_iload (pc := 37) 4 dd_M_tablesBy_0.2.2.2.2.2.2.2.2.2.2.2.2.2.2.2.2.2.2.1 rfl ?_
  refine g_aload_n (pc := 39) 0 dd_M_tablesBy_0.2.2.2.2.2.2.2.2.2.2.2.2.2.2.2.2.2.2.2.1 rfl rfl ?_
  obtain ⟨x7, e8, hf⟩ := bd1_e hf
  refine g_get (pc := 40) (ci := 8) (kk := 2) dd_M_tablesBy_0.2.2.2.2.2.2.2.2.2.2.2.2.2.2.2.2.2.2.2.2.1 rfl in_M (by decide) wd_940 (gI_spec e8) ?_
  refine g_icmpge (pc := 43) 61 dd_M_tablesBy_0.2.2.2.2.2.2.2.2.2.2.2.2.2.2.2.2.2.2.2.2.2.1 (by decide) (fun c13 => ?_) (fun c13 => ?_)
  · replace hf := (if_pos c13).symm.trans hf
    refine g_lconst (pc := 61) (0 : Int64) dd_M_tablesBy_49.2.2.2.2.2.2.1 (by decide) ?_
    refine g_lstore (pc := 62) [(4, .long (0 : Int64)), (0, .ref b0), (1, .int b1), (2, .int b2), (3, .int b3)] dd_M_tablesBy_49.2.2.2.2.2.2.2.1 (Nat.le_of_ble_eq_true rfl) rfl ?_
    refine g_iconst (pc := 64) (0 : Int32) dd_M_tablesBy_49.2.2.2.2.2.2.2.2.1 (by decide) ?_
    refine g_istore (pc := 65) [(6, .int (0 : Int32)), (4, .long (0 : Int64)), (0, .ref b0), (1, .int b1), (2, .int b2), (3, .int b3)] dd_M_tablesBy_49.2.2.2.2.2.2.2.2.2.1 (Nat.le_of_ble_eq_true rfl) rfl ?_
    refine g_lv [2, 1, 0] rfl ?_
    exact t_M_tablesBy_67  FU _ _ _ _ _ _  hf
  · replace hf := (if_neg c13).symm.trans hf
    refine g_aload_n (pc := 46) 0 dd_M_tablesBy_0.2.2.2.2.2.2.2.2.2.2.2.2.2.2.2.2.2.2.2.2.2.2.1 rfl rfl ?_
    refine g_iload (pc := 47) 4 dd_M_tablesBy_0.2.2.2.2.2.2.2.2.2.2.2.2.2.2.2.2.2.2.2.2.2.2.2 rfl ?_
    refine g_iload_n (pc := 49) 1 dd_M_tablesBy_49.1 rfl rfl ?_
    refine g_iload_n (pc := 50) 2 dd_M_tablesBy_49.2.1 rfl rfl ?_
    refine g_iload_n (pc := 51) 3 dd_M_tablesBy_49.2.2.1 rfl rfl ?_
    obtain ⟨u10, e9, hf⟩ := bd1_e hf
    obtain ⟨h11, e12, hf⟩ := bd1_e hf
    refine g_callV (pc := 52) (ci := 8) [.int b4, .int b1, .int b2, .int b3] (site_of si_M_addsLaw (by decide) (by decide)) wd_1345 wd_1347 wp_68 dd_M_tablesBy_49.2.2.2.1 rfl e9 (Nat.le_of_ble_eq_true rfl) (fun z => absurd z si_na_M_addsLaw) (fun z => absurd z si_na_M_addsLaw) (fun z => absurd z si_na_M_addsLaw) (c_M_addsLaw e12) rfl ?_
    refine g_st [] rfl ?_
    refine g_iinc (pc := 55) 4 (b4 + (1 : Int32)) [(4, .int (b4 + (1 : Int32))), (0, .ref b0), (1, .int b1), (2, .int b2), (3, .int b3)] dd_M_tablesBy_49.2.2.2.2.1 rfl rfl (Nat.le_of_ble_eq_true rfl) rfl ?_
    refine g_goto (pc := 58) 37 dd_M_tablesBy_49.2.2.2.2.2.1 (by decide) ?_
    refine g_lv [1, 2, 3, 4, 0] rfl ?_
    exact hrec37 _ _ _ _ _ _ _ _  hf
def f_M_tablesBy_37  : Nat → Nat → Int32 → Int32 → Int32 → Int32 → mH → Option (Int64 × mH)
  | 0 => fun _ _ _ _ _ _ => none
  | n + 1 => f_M_tablesBy_37b  (f_M_tablesBy_37  n)
theorem t_M_tablesBy_37 {sc : Nat × (Nat → Int32)}  : ∀ (n : Nat) (b0 : Nat) (b1 : Int32) (b2 : Int32) (b3 : Int32) (b4 : Int32) (h : mH) (r : Int64) (h' : mH) (hf : f_M_tablesBy_37  n b0 b1 b2 b3 b4 h = some (r, h')), G sc y_M_tablesBy prog_10_method_79_code 7 (some .long) 2 55 37 [(0, .ref b0), (1, .int b1), (2, .int b2), (3, .int b3), (4, .int b4)] [] h (some (.long r)) h'
  | 0, _, _, _, _, _, _, _, _, hf => by cases hf
  | n + 1, _, _, _, _, _, _, _, _, hf => t_M_tablesBy_37b  (f_M_tablesBy_37  n) (t_M_tablesBy_37  n) _ _ _ _ _ _ _ _ hf
def f_M_tablesBy_27 (rec3 : Nat → Int32 → Int32 → Int32 → Int32 → mH → Option (Int64 × mH)) (b0 : Nat) (b1 : Int32) (b2 : Int32) (b3 : Int32) (b4 : Int32) (s0 : Nat) (s1 : Int32) (s2 : Int64) (h : mH) : Option (Int64 × mH) :=
  bd1 (sL h s0 s1 s2) fun h5 =>
  rec3 b0 b1 b2 b3 (b4 + (1 : Int32)) h5
set_option maxRecDepth 20000 in
theorem t_M_tablesBy_27 {sc : Nat × (Nat → Int32)} (rec3 : Nat → Int32 → Int32 → Int32 → Int32 → mH → Option (Int64 × mH)) (hrec3 : ∀ (b0 : Nat) (b1 : Int32) (b2 : Int32) (b3 : Int32) (b4 : Int32) (h : mH) (r : Int64) (h' : mH), rec3 b0 b1 b2 b3 b4 h = some (r, h') → G sc y_M_tablesBy prog_10_method_79_code 7 (some .long) 2 55 3 [(0, .ref b0), (1, .int b1), (2, .int b2), (3, .int b3), (4, .int b4)] [] h (some (.long r)) h') (b0 : Nat) (b1 : Int32) (b2 : Int32) (b3 : Int32) (b4 : Int32) (s0 : Nat) (s1 : Int32) (s2 : Int64) (h : mH) (r : Int64) (h' : mH) (hf : f_M_tablesBy_27 rec3 b0 b1 b2 b3 b4 s0 s1 s2 h = some (r, h')) : G sc y_M_tablesBy prog_10_method_79_code 7 (some .long) 2 55 27 [(0, .ref b0), (1, .int b1), (2, .int b2), (3, .int b3), (4, .int b4)] [.long s2, .int s1, .ref s0] h (some (.long r)) h' := by
  unfold f_M_tablesBy_27 at hf
  obtain ⟨h5, e6, hf⟩ := bd1_e hf
  refine g_last (pc := 27) dd_M_tablesBy_0.2.2.2.2.2.2.2.2.2.2.2.2.2.1 e6 ?_
  refine g_iinc (pc := 28) 4 (b4 + (1 : Int32)) [(4, .int (b4 + (1 : Int32))), (0, .ref b0), (1, .int b1), (2, .int b2), (3, .int b3)] dd_M_tablesBy_0.2.2.2.2.2.2.2.2.2.2.2.2.2.2.1 rfl rfl (Nat.le_of_ble_eq_true rfl) rfl ?_
  refine g_goto (pc := 31) 3 dd_M_tablesBy_0.2.2.2.2.2.2.2.2.2.2.2.2.2.2.2.1 (by decide) ?_
  refine g_lv [1, 2, 3, 4, 0] rfl ?_
  exact hrec3 _ _ _ _ _ _ _ _  hf
def f_M_tablesBy_3b (rec3 : Nat → Int32 → Int32 → Int32 → Int32 → mH → Option (Int64 × mH)) (b0 : Nat) (b1 : Int32) (b2 : Int32) (b3 : Int32) (b4 : Int32) (h : mH) : Option (Int64 × mH) :=
  if (216 : Int32) ≤ b4 then
    f_M_tablesBy_37  FU b0 b1 b2 b3 (0 : Int32) h
  else
    bd1 (gR h b0 8 33) fun x1 =>
    if b4 = 0 then
      f_M_tablesBy_27 rec3 b0 b1 b2 b3 b4 x1 b4 (1 : Int64) h
    else
      f_M_tablesBy_27 rec3 b0 b1 b2 b3 b4 x1 b4 (0 : Int64) h
set_option maxRecDepth 20000 in
theorem t_M_tablesBy_3b {sc : Nat × (Nat → Int32)} (rec3 : Nat → Int32 → Int32 → Int32 → Int32 → mH → Option (Int64 × mH)) (hrec3 : ∀ (b0 : Nat) (b1 : Int32) (b2 : Int32) (b3 : Int32) (b4 : Int32) (h : mH) (r : Int64) (h' : mH), rec3 b0 b1 b2 b3 b4 h = some (r, h') → G sc y_M_tablesBy prog_10_method_79_code 7 (some .long) 2 55 3 [(0, .ref b0), (1, .int b1), (2, .int b2), (3, .int b3), (4, .int b4)] [] h (some (.long r)) h') (b0 : Nat) (b1 : Int32) (b2 : Int32) (b3 : Int32) (b4 : Int32) (h : mH) (r : Int64) (h' : mH) (hf : f_M_tablesBy_3b rec3 b0 b1 b2 b3 b4 h = some (r, h')) : G sc y_M_tablesBy prog_10_method_79_code 7 (some .long) 2 55 3 [(0, .ref b0), (1, .int b1), (2, .int b2), (3, .int b3), (4, .int b4)] [] h (some (.long r)) h' := by
  unfold f_M_tablesBy_3b at hf
  refine g_iload (pc := 3) 4 dd_M_tablesBy_0.2.2.1 rfl ?_
  refine g_sipush (pc := 5) (216 : Int32) dd_M_tablesBy_0.2.2.2.1 (by decide) ?_
  refine g_icmpge (pc := 8) 34 dd_M_tablesBy_0.2.2.2.2.1 (by decide) (fun c4 => ?_) (fun c4 => ?_)
  · replace hf := (if_pos c4).symm.trans hf
    refine g_iconst (pc := 34) (0 : Int32) dd_M_tablesBy_0.2.2.2.2.2.2.2.2.2.2.2.2.2.2.2.2.1 (by decide) ?_
    refine g_istore (pc := 35) [(4, .int (0 : Int32)), (0, .ref b0), (1, .int b1), (2, .int b2), (3, .int b3)] dd_M_tablesBy_0.2.2.2.2.2.2.2.2.2.2.2.2.2.2.2.2.2.1 (Nat.le_of_ble_eq_true rfl) rfl ?_
    refine g_lv [1, 2, 3, 4, 0] rfl ?_
    exact t_M_tablesBy_37  FU _ _ _ _ _ _ _ _  hf
  · replace hf := (if_neg c4).symm.trans hf
    refine g_aload_n (pc := 11) 0 dd_M_tablesBy_0.2.2.2.2.2.1 rfl rfl ?_
    obtain ⟨x1, e2, hf⟩ := bd1_e hf
    refine g_get (pc := 12) (ci := 8) (kk := 33) dd_M_tablesBy_0.2.2.2.2.2.2.1 rfl in_M (by decide) wd_971 (gR_spec e2) ?_
    refine g_iload (pc := 15) 4 dd_M_tablesBy_0.2.2.2.2.2.2.2.1 rfl ?_
    refine g_iload (pc := 17) 4 dd_M_tablesBy_0.2.2.2.2.2.2.2.2.1 rfl ?_
    refine g_ifne (pc := 19) 26 dd_M_tablesBy_0.2.2.2.2.2.2.2.2.2.1 (by decide) (fun c3 => ?_) (fun c3 => ?_)
    · replace hf := (if_neg c3).symm.trans hf
      refine g_lconst (pc := 26) (0 : Int64) dd_M_tablesBy_0.2.2.2.2.2.2.2.2.2.2.2.2.1 (by decide) ?_
      refine g_lv [0, 1, 2, 3, 4] rfl ?_
      exact t_M_tablesBy_27 rec3 hrec3 _ _ _ _ _ _ _ _ _ _ _  hf
    · replace hf := (if_pos c3).symm.trans hf
      refine g_lconst (pc := 22) (1 : Int64) dd_M_tablesBy_0.2.2.2.2.2.2.2.2.2.2.1 (by decide) ?_
      refine g_goto (pc := 23) 27 dd_M_tablesBy_0.2.2.2.2.2.2.2.2.2.2.2.1 (by decide) ?_
      refine g_lv [0, 1, 2, 3, 4] rfl ?_
      exact t_M_tablesBy_27 rec3 hrec3 _ _ _ _ _ _ _ _ _ _ _  hf
def f_M_tablesBy_3  : Nat → Nat → Int32 → Int32 → Int32 → Int32 → mH → Option (Int64 × mH)
  | 0 => fun _ _ _ _ _ _ => none
  | n + 1 => f_M_tablesBy_3b  (f_M_tablesBy_3  n)
theorem t_M_tablesBy_3 {sc : Nat × (Nat → Int32)}  : ∀ (n : Nat) (b0 : Nat) (b1 : Int32) (b2 : Int32) (b3 : Int32) (b4 : Int32) (h : mH) (r : Int64) (h' : mH) (hf : f_M_tablesBy_3  n b0 b1 b2 b3 b4 h = some (r, h')), G sc y_M_tablesBy prog_10_method_79_code 7 (some .long) 2 55 3 [(0, .ref b0), (1, .int b1), (2, .int b2), (3, .int b3), (4, .int b4)] [] h (some (.long r)) h'
  | 0, _, _, _, _, _, _, _, _, hf => by cases hf
  | n + 1, _, _, _, _, _, _, _, _, hf => t_M_tablesBy_3b  (f_M_tablesBy_3  n) (t_M_tablesBy_3  n) _ _ _ _ _ _ _ _ hf
def f_M_tablesBy_0  (a0 : Nat) (a1 : Int32) (a2 : Int32) (a3 : Int32) (h : mH) : Option (Int64 × mH) :=
  f_M_tablesBy_3  FU a0 a1 a2 a3 (0 : Int32) h
set_option maxRecDepth 20000 in
theorem t_M_tablesBy_0 {sc : Nat × (Nat → Int32)}  (a0 : Nat) (a1 : Int32) (a2 : Int32) (a3 : Int32) (h : mH) (r : Int64) (h' : mH) (hf : f_M_tablesBy_0  a0 a1 a2 a3 h = some (r, h')) : G sc y_M_tablesBy prog_10_method_79_code 7 (some .long) 2 55 0 [(0, .ref a0), (1, .int a1), (2, .int a2), (3, .int a3)] [] h (some (.long r)) h' := by
  unfold f_M_tablesBy_0 at hf
  refine g_iconst (pc := 0) (0 : Int32) dd_M_tablesBy_0.1 (by decide) ?_
  refine g_istore (pc := 1) [(4, .int (0 : Int32)), (0, .ref a0), (1, .int a1), (2, .int a2), (3, .int a3)] dd_M_tablesBy_0.2.1 (Nat.le_of_ble_eq_true rfl) rfl ?_
  refine g_lv [1, 2, 3, 4, 0] rfl ?_
  exact t_M_tablesBy_3  FU _ _ _ _ _ _ _ _  hf
def f_M_tablesBy (a0 : Nat) (a1 : Int32) (a2 : Int32) (a3 : Int32) (h : mH) : Option (Int64 × mH) := f_M_tablesBy_0 a0 a1 a2 a3 h
theorem c_M_tablesBy {sc : Nat × (Nat → Int32)} {a0 : Nat} {a1 : Int32} {a2 : Int32} {a3 : Int32} {h : mH} {r : Int64} {h' : mH} (hf : f_M_tablesBy a0 a1 a2 a3 h = some (r, h')) : MM sc y_M_tablesBy prog_10_method_79_code 7 (some .long) 2 55 [.ref a0, .int a1, .int a2, .int a3] h (some (.long r)) h' :=
  mm_of_G si_pn_M (Nat.le_of_ble_eq_true rfl) (t_M_tablesBy_0 _ _ _ _ _ _ _ hf)
/-! M books ()J -/
set_option maxRecDepth 100000 in
theorem dd_M_books_0 : (decode prog_10_method_80_code 0 = .ok (.aload_n 0, 1)) ∧ (decode prog_10_method_80_code 1 = .ok (.bipush (-4), 2)) ∧ (decode prog_10_method_80_code 3 = .ok (.bipush (-4), 2)) ∧ (decode prog_10_method_80_code 5 = .ok (.iconst 0, 1)) ∧ (decode prog_10_method_80_code 6 = .ok (.invokevirtual 315, 3)) ∧ (decode prog_10_method_80_code 9 = .ok (.lreturn, 1)) := by
  have h : List.drop 0 prog_10_method_80_code.data.toList = 0x2a :: _ := rfl
  refine ⟨zq_k_n 42 h rfl (zq_o_42 _), ?_⟩
  replace h := zq_nx1 (q := 1) h rfl
  refine ⟨zq_k_s1 16 (fun z => .bipush z) (-4) h rfl (zq_o_16 _) (by decide +kernel), ?_⟩
  replace h := zq_nx2 (q := 3) h rfl
  refine ⟨zq_k_s1 16 (fun z => .bipush z) (-4) h rfl (zq_o_16 _) (by decide +kernel), ?_⟩
  replace h := zq_nx2 (q := 5) h rfl
  refine ⟨zq_k_n 3 h rfl (zq_o_3 _), ?_⟩
  replace h := zq_nx1 (q := 6) h rfl
  refine ⟨zq_k_u2 182 (fun z => .invokevirtual z) 315 h rfl (zq_o_182 _) (by decide +kernel), ?_⟩
  replace h := zq_nx3 (q := 9) h rfl
  exact zq_k_n 173 h rfl (zq_o_173 _)
def f_M_books_0  (a0 : Nat) (h : mH) : Option (Int64 × mH) :=
  bd1 (kC h a0 8) fun _ =>
  bd2 (f_M_tablesBy a0 ((-4) : Int32) ((-4) : Int32) (0 : Int32) h) fun x5 h3 =>
  some (x5, h3)
set_option maxRecDepth 20000 in
theorem t_M_books_0 {sc : Nat × (Nat → Int32)}  (a0 : Nat) (h : mH) (r : Int64) (h' : mH) (hf : f_M_books_0  a0 h = some (r, h')) : G sc y_M_books prog_10_method_80_code 1 (some .long) 3 81 0 [(0, .ref a0)] [] h (some (.long r)) h' := by
  unfold f_M_books_0 at hf
  refine g_aload_n (pc := 0) 0 dd_M_books_0.1 rfl rfl ?_
  refine g_bipush (pc := 1) ((-4) : Int32) dd_M_books_0.2.1 (by decide) ?_
  refine g_bipush (pc := 3) ((-4) : Int32) dd_M_books_0.2.2.1 (by decide) ?_
  refine g_iconst (pc := 5) (0 : Int32) dd_M_books_0.2.2.2.1 (by decide) ?_
  obtain ⟨u2, e1, hf⟩ := bd1_e hf
  obtain ⟨x5, h3, e4, hf⟩ := bd2_e hf
  refine g_callV (pc := 6) (ci := 8) [.int ((-4) : Int32), .int ((-4) : Int32), .int (0 : Int32)] (site_of si_M_tablesBy (by decide) (by decide)) wd_1341 wd_1343 wp_67 dd_M_books_0.2.2.2.2.1 rfl e1 (Nat.le_of_ble_eq_true rfl) (fun z => absurd z si_na_M_tablesBy) (fun z => absurd z si_na_M_tablesBy) (fun z => absurd z si_na_M_tablesBy) (c_M_tablesBy e4) rfl ?_
  refine g_st [.long x5] rfl ?_
  obtain ⟨rfl, rfl⟩ := ret2 hf
  exact g_lret (pc := 9) rfl dd_M_books_0.2.2.2.2.2
def f_M_books (a0 : Nat) (h : mH) : Option (Int64 × mH) := f_M_books_0 a0 h
theorem c_M_books {sc : Nat × (Nat → Int32)} {a0 : Nat} {h : mH} {r : Int64} {h' : mH} (hf : f_M_books a0 h = some (r, h')) : MM sc y_M_books prog_10_method_80_code 1 (some .long) 3 81 [.ref a0] h (some (.long r)) h' :=
  mm_of_G si_pn_M (Nat.le_of_ble_eq_true rfl) (t_M_books_0 _ _ _ _ hf)
/-! M entry (III)I -/
set_option maxRecDepth 100000 in
theorem dd_M_entry_0 : (decode prog_10_method_81_code 0 = .ok (.aload_n 0, 1)) ∧ (decode prog_10_method_81_code 1 = .ok (.iload_n 1, 1)) ∧ (decode prog_10_method_81_code 2 = .ok (.invokevirtual 213, 3)) ∧ (decode prog_10_method_81_code 5 = .ok (.ifCond .eq 21, 3)) ∧ (decode prog_10_method_81_code 8 = .ok (.aload_n 0, 1)) ∧ (decode prog_10_method_81_code 9 = .ok (.iload_n 2, 1)) ∧ (decode prog_10_method_81_code 10 = .ok (.invokevirtual 210, 3)) ∧ (decode prog_10_method_81_code 13 = .ok (.ifCond .eq 13, 3)) ∧ (decode prog_10_method_81_code 16 = .ok (.iload_n 3, 1)) ∧ (decode prog_10_method_81_code 17 = .ok (.i2l, 1)) ∧ (decode prog_10_method_81_code 18 = .ok (.lconst 0, 1)) ∧ (decode prog_10_method_81_code 19 = .ok (.lconst 1, 1)) ∧ (decode prog_10_method_81_code 20 = .ok (.invokestatic 114, 3)) ∧ (decode prog_10_method_81_code 23 = .ok (.ifCond .ne 5, 3)) ∧ (decode prog_10_method_81_code 26 = .ok (.iconst (-1), 1)) ∧ (decode prog_10_method_81_code 27 = .ok (.ireturn, 1)) ∧ (decode prog_10_method_81_code 28 = .ok (.bipush (-4), 2)) ∧ (decode prog_10_method_81_code 30 = .ok (.istore 4, 2)) ∧ (decode prog_10_method_81_code 32 = .ok (.bipush (-4), 2)) ∧ (decode prog_10_method_81_code 34 = .ok (.istore 5, 2)) ∧ (decode prog_10_method_81_code 36 = .ok (.iconst 0, 1)) ∧ (decode prog_10_method_81_code 37 = .ok (.istore 6, 2)) ∧ (decode prog_10_method_81_code 39 = .ok (.iload 6, 2)) ∧ (decode prog_10_method_81_code 41 = .ok (.iconst 3, 1)) := by
  have h : List.drop 0 prog_10_method_81_code.data.toList = 0x2a :: _ := rfl
  refine ⟨zq_k_n 42 h rfl (zq_o_42 _), ?_⟩
  replace h := zq_nx1 (q := 1) h rfl
  refine ⟨zq_k_n 27 h rfl (zq_o_27 _), ?_⟩
  replace h := zq_nx1 (q := 2) h rfl
  refine ⟨zq_k_u2 182 (fun z => .invokevirtual z) 213 h rfl (zq_o_182 _) (by decide +kernel), ?_⟩
  replace h := zq_nx3 (q := 5) h rfl
  refine ⟨zq_k_s2 153 (fun z => .ifCond .eq z) 21 h rfl (zq_o_153 _) (by decide +kernel), ?_⟩
  replace h := zq_nx3 (q := 8) h rfl
  refine ⟨zq_k_n 42 h rfl (zq_o_42 _), ?_⟩
  replace h := zq_nx1 (q := 9) h rfl
  refine ⟨zq_k_n 28 h rfl (zq_o_28 _), ?_⟩
  replace h := zq_nx1 (q := 10) h rfl
  refine ⟨zq_k_u2 182 (fun z => .invokevirtual z) 210 h rfl (zq_o_182 _) (by decide +kernel), ?_⟩
  replace h := zq_nx3 (q := 13) h rfl
  refine ⟨zq_k_s2 153 (fun z => .ifCond .eq z) 13 h rfl (zq_o_153 _) (by decide +kernel), ?_⟩
  replace h := zq_nx3 (q := 16) h rfl
  refine ⟨zq_k_n 29 h rfl (zq_o_29 _), ?_⟩
  replace h := zq_nx1 (q := 17) h rfl
  refine ⟨zq_k_n 133 h rfl (zq_o_133 _), ?_⟩
  replace h := zq_nx1 (q := 18) h rfl
  refine ⟨zq_k_n 9 h rfl (zq_o_9 _), ?_⟩
  replace h := zq_nx1 (q := 19) h rfl
  refine ⟨zq_k_n 10 h rfl (zq_o_10 _), ?_⟩
  replace h := zq_nx1 (q := 20) h rfl
  refine ⟨zq_k_u2 184 (fun z => .invokestatic z) 114 h rfl (zq_o_184 _) (by decide +kernel), ?_⟩
  replace h := zq_nx3 (q := 23) h rfl
  refine ⟨zq_k_s2 154 (fun z => .ifCond .ne z) 5 h rfl (zq_o_154 _) (by decide +kernel), ?_⟩
  replace h := zq_nx3 (q := 26) h rfl
  refine ⟨zq_k_n 2 h rfl (zq_o_2 _), ?_⟩
  replace h := zq_nx1 (q := 27) h rfl
  refine ⟨zq_k_n 172 h rfl (zq_o_172 _), ?_⟩
  replace h := zq_nx1 (q := 28) h rfl
  refine ⟨zq_k_s1 16 (fun z => .bipush z) (-4) h rfl (zq_o_16 _) (by decide +kernel), ?_⟩
  replace h := zq_nx2 (q := 30) h rfl
  refine ⟨zq_k_u1 54 (fun z => .istore z) 4 h rfl (zq_o_54 _) (by decide +kernel), ?_⟩
  replace h := zq_nx2 (q := 32) h rfl
  refine ⟨zq_k_s1 16 (fun z => .bipush z) (-4) h rfl (zq_o_16 _) (by decide +kernel), ?_⟩
  replace h := zq_nx2 (q := 34) h rfl
  refine ⟨zq_k_u1 54 (fun z => .istore z) 5 h rfl (zq_o_54 _) (by decide +kernel), ?_⟩
  replace h := zq_nx2 (q := 36) h rfl
  refine ⟨zq_k_n 3 h rfl (zq_o_3 _), ?_⟩
  replace h := zq_nx1 (q := 37) h rfl
  refine ⟨zq_k_u1 54 (fun z => .istore z) 6 h rfl (zq_o_54 _) (by decide +kernel), ?_⟩
  replace h := zq_nx2 (q := 39) h rfl
  refine ⟨zq_k_u1 21 (fun z => .iload z) 6 h rfl (zq_o_21 _) (by decide +kernel), ?_⟩
  replace h := zq_nx2 (q := 41) h rfl
  exact zq_k_n 6 h rfl (zq_o_6 _)
set_option maxRecDepth 100000 in
theorem dd_M_entry_42 : (decode prog_10_method_81_code 42 = .ok (.if_icmp .gt 64, 3)) ∧ (decode prog_10_method_81_code 45 = .ok (.aload_n 0, 1)) ∧ (decode prog_10_method_81_code 46 = .ok (.iload_n 1, 1)) ∧ (decode prog_10_method_81_code 47 = .ok (.iload_n 2, 1)) ∧ (decode prog_10_method_81_code 48 = .ok (.iload 6, 2)) ∧ (decode prog_10_method_81_code 50 = .ok (.invokevirtual 315, 3)) ∧ (decode prog_10_method_81_code 53 = .ok (.lconst 0, 1)) ∧ (decode prog_10_method_81_code 54 = .ok (.lcmp, 1)) ∧ (decode prog_10_method_81_code 55 = .ok (.ifCond .le 7, 3)) ∧ (decode prog_10_method_81_code 58 = .ok (.iconst 1, 1)) ∧ (decode prog_10_method_81_code 59 = .ok (.goto 4, 3)) ∧ (decode prog_10_method_81_code 62 = .ok (.iconst 0, 1)) ∧ (decode prog_10_method_81_code 63 = .ok (.istore 7, 2)) ∧ (decode prog_10_method_81_code 65 = .ok (.iload 7, 2)) ∧ (decode prog_10_method_81_code 67 = .ok (.ifCond .eq 15, 3)) ∧ (decode prog_10_method_81_code 70 = .ok (.iload 4, 2)) ∧ (decode prog_10_method_81_code 72 = .ok (.bipush (-4), 2)) ∧ (decode prog_10_method_81_code 74 = .ok (.if_icmp .ne 8, 3)) ∧ (decode prog_10_method_81_code 77 = .ok (.iload 6, 2)) ∧ (decode prog_10_method_81_code 79 = .ok (.goto 5, 3)) ∧ (decode prog_10_method_81_code 82 = .ok (.iload 4, 2)) ∧ (decode prog_10_method_81_code 84 = .ok (.istore 4, 2)) ∧ (decode prog_10_method_81_code 86 = .ok (.iload 7, 2)) ∧ (decode prog_10_method_81_code 88 = .ok (.ifCond .eq 8, 3)) := by
  have h : List.drop 42 prog_10_method_81_code.data.toList = 0xa3 :: _ := rfl
  refine ⟨zq_k_s2 163 (fun z => .if_icmp .gt z) 64 h rfl (zq_o_163 _) (by decide +kernel), ?_⟩
  replace h := zq_nx3 (q := 45) h rfl
  refine ⟨zq_k_n 42 h rfl (zq_o_42 _), ?_⟩
  replace h := zq_nx1 (q := 46) h rfl
  refine ⟨zq_k_n 27 h rfl (zq_o_27 _), ?_⟩
  replace h := zq_nx1 (q := 47) h rfl
  refine ⟨zq_k_n 28 h rfl (zq_o_28 _), ?_⟩
  replace h := zq_nx1 (q := 48) h rfl
  refine ⟨zq_k_u1 21 (fun z => .iload z) 6 h rfl (zq_o_21 _) (by decide +kernel), ?_⟩
  replace h := zq_nx2 (q := 50) h rfl
  refine ⟨zq_k_u2 182 (fun z => .invokevirtual z) 315 h rfl (zq_o_182 _) (by decide +kernel), ?_⟩
  replace h := zq_nx3 (q := 53) h rfl
  refine ⟨zq_k_n 9 h rfl (zq_o_9 _), ?_⟩
  replace h := zq_nx1 (q := 54) h rfl
  refine ⟨zq_k_n 148 h rfl (zq_o_148 _), ?_⟩
  replace h := zq_nx1 (q := 55) h rfl
  refine ⟨zq_k_s2 158 (fun z => .ifCond .le z) 7 h rfl (zq_o_158 _) (by decide +kernel), ?_⟩
  replace h := zq_nx3 (q := 58) h rfl
  refine ⟨zq_k_n 4 h rfl (zq_o_4 _), ?_⟩
  replace h := zq_nx1 (q := 59) h rfl
  refine ⟨zq_k_s2 167 (fun z => .goto z) 4 h rfl (zq_o_167 _) (by decide +kernel), ?_⟩
  replace h := zq_nx3 (q := 62) h rfl
  refine ⟨zq_k_n 3 h rfl (zq_o_3 _), ?_⟩
  replace h := zq_nx1 (q := 63) h rfl
  refine ⟨zq_k_u1 54 (fun z => .istore z) 7 h rfl (zq_o_54 _) (by decide +kernel), ?_⟩
  replace h := zq_nx2 (q := 65) h rfl
  refine ⟨zq_k_u1 21 (fun z => .iload z) 7 h rfl (zq_o_21 _) (by decide +kernel), ?_⟩
  replace h := zq_nx2 (q := 67) h rfl
  refine ⟨zq_k_s2 153 (fun z => .ifCond .eq z) 15 h rfl (zq_o_153 _) (by decide +kernel), ?_⟩
  replace h := zq_nx3 (q := 70) h rfl
  refine ⟨zq_k_u1 21 (fun z => .iload z) 4 h rfl (zq_o_21 _) (by decide +kernel), ?_⟩
  replace h := zq_nx2 (q := 72) h rfl
  refine ⟨zq_k_s1 16 (fun z => .bipush z) (-4) h rfl (zq_o_16 _) (by decide +kernel), ?_⟩
  replace h := zq_nx2 (q := 74) h rfl
  refine ⟨zq_k_s2 160 (fun z => .if_icmp .ne z) 8 h rfl (zq_o_160 _) (by decide +kernel), ?_⟩
  replace h := zq_nx3 (q := 77) h rfl
  refine ⟨zq_k_u1 21 (fun z => .iload z) 6 h rfl (zq_o_21 _) (by decide +kernel), ?_⟩
  replace h := zq_nx2 (q := 79) h rfl
  refine ⟨zq_k_s2 167 (fun z => .goto z) 5 h rfl (zq_o_167 _) (by decide +kernel), ?_⟩
  replace h := zq_nx3 (q := 82) h rfl
  refine ⟨zq_k_u1 21 (fun z => .iload z) 4 h rfl (zq_o_21 _) (by decide +kernel), ?_⟩
  replace h := zq_nx2 (q := 84) h rfl
  refine ⟨zq_k_u1 54 (fun z => .istore z) 4 h rfl (zq_o_54 _) (by decide +kernel), ?_⟩
  replace h := zq_nx2 (q := 86) h rfl
  refine ⟨zq_k_u1 21 (fun z => .iload z) 7 h rfl (zq_o_21 _) (by decide +kernel), ?_⟩
  replace h := zq_nx2 (q := 88) h rfl
  exact zq_k_s2 153 (fun z => .ifCond .eq z) 8 h rfl (zq_o_153 _) (by decide +kernel)
set_option maxRecDepth 100000 in
theorem dd_M_entry_91 : (decode prog_10_method_81_code 91 = .ok (.iload 6, 2)) ∧ (decode prog_10_method_81_code 93 = .ok (.goto 5, 3)) ∧ (decode prog_10_method_81_code 96 = .ok (.iload 5, 2)) ∧ (decode prog_10_method_81_code 98 = .ok (.istore 5, 2)) ∧ (decode prog_10_method_81_code 100 = .ok (.iinc 6 1, 3)) ∧ (decode prog_10_method_81_code 103 = .ok (.goto (-64), 3)) ∧ (decode prog_10_method_81_code 106 = .ok (.iload_n 3, 1)) ∧ (decode prog_10_method_81_code 107 = .ok (.ifCond .ne 8, 3)) ∧ (decode prog_10_method_81_code 110 = .ok (.iload 4, 2)) ∧ (decode prog_10_method_81_code 112 = .ok (.goto 5, 3)) ∧ (decode prog_10_method_81_code 115 = .ok (.iload 5, 2)) ∧ (decode prog_10_method_81_code 117 = .ok (.ireturn, 1)) := by
  have h : List.drop 91 prog_10_method_81_code.data.toList = 0x15 :: _ := rfl
  refine ⟨zq_k_u1 21 (fun z => .iload z) 6 h rfl (zq_o_21 _) (by decide +kernel), ?_⟩
  replace h := zq_nx2 (q := 93) h rfl
  refine ⟨zq_k_s2 167 (fun z => .goto z) 5 h rfl (zq_o_167 _) (by decide +kernel), ?_⟩
  replace h := zq_nx3 (q := 96) h rfl
  refine ⟨zq_k_u1 21 (fun z => .iload z) 5 h rfl (zq_o_21 _) (by decide +kernel), ?_⟩
  replace h := zq_nx2 (q := 98) h rfl
  refine ⟨zq_k_u1 54 (fun z => .istore z) 5 h rfl (zq_o_54 _) (by decide +kernel), ?_⟩
  replace h := zq_nx2 (q := 100) h rfl
  refine ⟨zq_k_iinc 6 1 h rfl (zq_o_132 _) (by decide +kernel) (by decide +kernel), ?_⟩
  replace h := zq_nx3 (q := 103) h rfl
  refine ⟨zq_k_s2 167 (fun z => .goto z) (-64) h rfl (zq_o_167 _) (by decide +kernel), ?_⟩
  replace h := zq_nx3 (q := 106) h rfl
  refine ⟨zq_k_n 29 h rfl (zq_o_29 _), ?_⟩
  replace h := zq_nx1 (q := 107) h rfl
  refine ⟨zq_k_s2 154 (fun z => .ifCond .ne z) 8 h rfl (zq_o_154 _) (by decide +kernel), ?_⟩
  replace h := zq_nx3 (q := 110) h rfl
  refine ⟨zq_k_u1 21 (fun z => .iload z) 4 h rfl (zq_o_21 _) (by decide +kernel), ?_⟩
  replace h := zq_nx2 (q := 112) h rfl
  refine ⟨zq_k_s2 167 (fun z => .goto z) 5 h rfl (zq_o_167 _) (by decide +kernel), ?_⟩
  replace h := zq_nx3 (q := 115) h rfl
  refine ⟨zq_k_u1 21 (fun z => .iload z) 5 h rfl (zq_o_21 _) (by decide +kernel), ?_⟩
  replace h := zq_nx2 (q := 117) h rfl
  exact zq_k_n 172 h rfl (zq_o_172 _)
def f_M_entry_98 (rec39 : Nat → Int32 → Int32 → Int32 → Int32 → Int32 → Int32 → mH → Option (Int32 × mH)) (b0 : Nat) (b1 : Int32) (b2 : Int32) (b3 : Int32) (b4 : Int32) (b6 : Int32) (s0 : Int32) (h : mH) : Option (Int32 × mH) :=
  rec39 b0 b1 b2 b3 b4 s0 (b6 + (1 : Int32)) h
set_option maxRecDepth 20000 in
theorem t_M_entry_98 {sc : Nat × (Nat → Int32)} (rec39 : Nat → Int32 → Int32 → Int32 → Int32 → Int32 → Int32 → mH → Option (Int32 × mH)) (hrec39 : ∀ (b0 : Nat) (b1 : Int32) (b2 : Int32) (b3 : Int32) (b4 : Int32) (b5 : Int32) (b6 : Int32) (h : mH) (r : Int32) (h' : mH), rec39 b0 b1 b2 b3 b4 b5 b6 h = some (r, h') → G sc y_M_entry prog_10_method_81_code 8 (some .int) 3 81 39 [(0, .ref b0), (1, .int b1), (2, .int b2), (3, .int b3), (4, .int b4), (5, .int b5), (6, .int b6)] [] h (some (.int r)) h') (b0 : Nat) (b1 : Int32) (b2 : Int32) (b3 : Int32) (b4 : Int32) (b6 : Int32) (s0 : Int32) (h : mH) (r : Int32) (h' : mH) (hf : f_M_entry_98 rec39 b0 b1 b2 b3 b4 b6 s0 h = some (r, h')) : G sc y_M_entry prog_10_method_81_code 8 (some .int) 3 81 98 [(0, .ref b0), (1, .int b1), (2, .int b2), (3, .int b3), (4, .int b4), (6, .int b6)] [.int s0] h (some (.int r)) h' := by
  unfold f_M_entry_98 at hf
  refine g_istore (pc := 98) [(5, .int s0), (0, .ref b0), (1, .int b1), (2, .int b2), (3, .int b3), (4, .int b4), (6, .int b6)] dd_M_entry_91.2.2.2.1 (Nat.le_of_ble_eq_true rfl) rfl ?_
  refine g_iinc (pc := 100) 6 (b6 + (1 : Int32)) [(6, .int (b6 + (1 : Int32))), (5, .int s0), (0, .ref b0), (1, .int b1), (2, .int b2), (3, .int b3), (4, .int b4)] dd_M_entry_91.2.2.2.2.1 rfl rfl (Nat.le_of_ble_eq_true rfl) rfl ?_
  refine g_goto (pc := 103) 39 dd_M_entry_91.2.2.2.2.2.1 (by decide) ?_
  refine g_lv [2, 3, 4, 5, 6, 1, 0] rfl ?_
  exact hrec39 _ _ _ _ _ _ _ _ _ _  hf
def f_M_entry_84 (rec39 : Nat → Int32 → Int32 → Int32 → Int32 → Int32 → Int32 → mH → Option (Int32 × mH)) (b0 : Nat) (b1 : Int32) (b2 : Int32) (b3 : Int32) (b5 : Int32) (b6 : Int32) (b7 : Int32) (s0 : Int32) (h : mH) : Option (Int32 × mH) :=
  if b7 = 0 then
    f_M_entry_98 rec39 b0 b1 b2 b3 s0 b6 b5 h
  else
    f_M_entry_98 rec39 b0 b1 b2 b3 s0 b6 b6 h
set_option maxRecDepth 20000 in
theorem t_M_entry_84 {sc : Nat × (Nat → Int32)} (rec39 : Nat → Int32 → Int32 → Int32 → Int32 → Int32 → Int32 → mH → Option (Int32 × mH)) (hrec39 : ∀ (b0 : Nat) (b1 : Int32) (b2 : Int32) (b3 : Int32) (b4 : Int32) (b5 : Int32) (b6 : Int32) (h : mH) (r : Int32) (h' : mH), rec39 b0 b1 b2 b3 b4 b5 b6 h = some (r, h') → G sc y_M_entry prog_10_method_81_code 8 (some .int) 3 81 39 [(0, .ref b0), (1, .int b1), (2, .int b2), (3, .int b3), (4, .int b4), (5, .int b5), (6, .int b6)] [] h (some (.int r)) h') (b0 : Nat) (b1 : Int32) (b2 : Int32) (b3 : Int32) (b5 : Int32) (b6 : Int32) (b7 : Int32) (s0 : Int32) (h : mH) (r : Int32) (h' : mH) (hf : f_M_entry_84 rec39 b0 b1 b2 b3 b5 b6 b7 s0 h = some (r, h')) : G sc y_M_entry prog_10_method_81_code 8 (some .int) 3 81 84 [(0, .ref b0), (1, .int b1), (2, .int b2), (3, .int b3), (5, .int b5), (6, .int b6), (7, .int b7)] [.int s0] h (some (.int r)) h' := by
  unfold f_M_entry_84 at hf
  refine g_istore (pc := 84) [(4, .int s0), (0, .ref b0), (1, .int b1), (2, .int b2), (3, .int b3), (5, .int b5), (6, .int b6), (7, .int b7)] dd_M_entry_42.2.2.2.2.2.2.2.2.2.2.2.2.2.2.2.2.2.2.2.2.2.1 (Nat.le_of_ble_eq_true rfl) rfl ?_
  refine g_iload (pc := 86) 7 dd_M_entry_42.2.2.2.2.2.2.2.2.2.2.2.2.2.2.2.2.2.2.2.2.2.2.1 rfl ?_
  refine g_ifeq (pc := 88) 96 dd_M_entry_42.2.2.2.2.2.2.2.2.2.2.2.2.2.2.2.2.2.2.2.2.2.2.2 (by decide) (fun c27 => ?_) (fun c27 => ?_)
  · replace hf := (if_pos c27).symm.trans hf
    refine g_iload (pc := 96) 5 dd_M_entry_91.2.2.1 rfl ?_
    refine g_lv [1, 2, 3, 4, 0, 6] rfl ?_
    exact t_M_entry_98 rec39 hrec39 _ _ _ _ _ _ _ _ _ _  hf
  · replace hf := (if_neg c27).symm.trans hf
    refine g_iload (pc := 91) 6 dd_M_entry_91.1 rfl ?_
    refine g_goto (pc := 93) 98 dd_M_entry_91.2.1 (by decide) ?_
    refine g_lv [1, 2, 3, 4, 0, 6] rfl ?_
    exact t_M_entry_98 rec39 hrec39 _ _ _ _ _ _ _ _ _ _  hf
def f_M_entry_82 (rec39 : Nat → Int32 → Int32 → Int32 → Int32 → Int32 → Int32 → mH → Option (Int32 × mH)) (b0 : Nat) (b1 : Int32) (b2 : Int32) (b3 : Int32) (b4 : Int32) (b5 : Int32) (b6 : Int32) (b7 : Int32) (h : mH) : Option (Int32 × mH) :=
  f_M_entry_84 rec39 b0 b1 b2 b3 b5 b6 b7 b4 h
set_option maxRecDepth 20000 in
theorem t_M_entry_82 {sc : Nat × (Nat → Int32)} (rec39 : Nat → Int32 → Int32 → Int32 → Int32 → Int32 → Int32 → mH → Option (Int32 × mH)) (hrec39 : ∀ (b0 : Nat) (b1 : Int32) (b2 : Int32) (b3 : Int32) (b4 : Int32) (b5 : Int32) (b6 : Int32) (h : mH) (r : Int32) (h' : mH), rec39 b0 b1 b2 b3 b4 b5 b6 h = some (r, h') → G sc y_M_entry prog_10_method_81_code 8 (some .int) 3 81 39 [(0, .ref b0), (1, .int b1), (2, .int b2), (3, .int b3), (4, .int b4), (5, .int b5), (6, .int b6)] [] h (some (.int r)) h') (b0 : Nat) (b1 : Int32) (b2 : Int32) (b3 : Int32) (b4 : Int32) (b5 : Int32) (b6 : Int32) (b7 : Int32) (h : mH) (r : Int32) (h' : mH) (hf : f_M_entry_82 rec39 b0 b1 b2 b3 b4 b5 b6 b7 h = some (r, h')) : G sc y_M_entry prog_10_method_81_code 8 (some .int) 3 81 82 [(0, .ref b0), (1, .int b1), (2, .int b2), (3, .int b3), (4, .int b4), (5, .int b5), (6, .int b6), (7, .int b7)] [] h (some (.int r)) h' := by
  unfold f_M_entry_82 at hf
  refine g_iload (pc := 82) 4 dd_M_entry_42.2.2.2.2.2.2.2.2.2.2.2.2.2.2.2.2.2.2.2.2.1 rfl ?_
  refine g_lv [0, 1, 2, 3, 5, 6, 7] rfl ?_
  exact t_M_entry_84 rec39 hrec39 _ _ _ _ _ _ _ _ _ _ _  hf
def f_M_entry_63 (rec39 : Nat → Int32 → Int32 → Int32 → Int32 → Int32 → Int32 → mH → Option (Int32 × mH)) (b0 : Nat) (b1 : Int32) (b2 : Int32) (b3 : Int32) (b4 : Int32) (b5 : Int32) (b6 : Int32) (s0 : Int32) (h : mH) : Option (Int32 × mH) :=
  if s0 = 0 then
    f_M_entry_82 rec39 b0 b1 b2 b3 b4 b5 b6 s0 h
  else
    if b4 = ((-4) : Int32) then
      f_M_entry_84 rec39 b0 b1 b2 b3 b5 b6 s0 b6 h
    else
      f_M_entry_82 rec39 b0 b1 b2 b3 b4 b5 b6 s0 h
set_option maxRecDepth 20000 in
theorem t_M_entry_63 {sc : Nat × (Nat → Int32)} (rec39 : Nat → Int32 → Int32 → Int32 → Int32 → Int32 → Int32 → mH → Option (Int32 × mH)) (hrec39 : ∀ (b0 : Nat) (b1 : Int32) (b2 : Int32) (b3 : Int32) (b4 : Int32) (b5 : Int32) (b6 : Int32) (h : mH) (r : Int32) (h' : mH), rec39 b0 b1 b2 b3 b4 b5 b6 h = some (r, h') → G sc y_M_entry prog_10_method_81_code 8 (some .int) 3 81 39 [(0, .ref b0), (1, .int b1), (2, .int b2), (3, .int b3), (4, .int b4), (5, .int b5), (6, .int b6)] [] h (some (.int r)) h') (b0 : Nat) (b1 : Int32) (b2 : Int32) (b3 : Int32) (b4 : Int32) (b5 : Int32) (b6 : Int32) (s0 : Int32) (h : mH) (r : Int32) (h' : mH) (hf : f_M_entry_63 rec39 b0 b1 b2 b3 b4 b5 b6 s0 h = some (r, h')) : G sc y_M_entry prog_10_method_81_code 8 (some .int) 3 81 63 [(0, .ref b0), (1, .int b1), (2, .int b2), (3, .int b3), (4, .int b4), (5, .int b5), (6, .int b6)] [.int s0] h (some (.int r)) h' := by
  unfold f_M_entry_63 at hf
  refine g_istore (pc := 63) [(7, .int s0), (0, .ref b0), (1, .int b1), (2, .int b2), (3, .int b3), (4, .int b4), (5, .int b5), (6, .int b6)] dd_M_entry_42.2.2.2.2.2.2.2.2.2.2.2.2.1 (Nat.le_of_ble_eq_true rfl) rfl ?_
  refine g_iload (pc := 65) 0 dd_M_entry_42.2.2.2.2.2.2.2.2.2.2.2.2.2.1 rfl ?_
  refine g_ifeq (pc := 67) 82 dd_M_entry_42.2.2.2.2.2.2.2.2.2.2.2.2.2.2.1 (by decide) (fun c26 => ?_) (fun c26 => ?_)
  · replace hf := (if_pos c26).symm.trans hf
    refine g_lv [1, 2, 3, 4, 5, 6, 7, 0] rfl ?_
    exact t_M_entry_82 rec39 hrec39 _ _ _ _ _ _ _ _ _ _ _  hf
  · replace hf := (if_neg c26).symm.trans hf
    refine g_iload (pc := 70) 5 dd_M_entry_42.2.2.2.2.2.2.2.2.2.2.2.2.2.2.2.1 rfl ?_
    refine g_bipush (pc := 72) ((-4) : Int32) dd_M_entry_42.2.2.2.2.2.2.2.2.2.2.2.2.2.2.2.2.1 (by decide) ?_
    refine g_icmpne (pc := 74) 82 dd_M_entry_42.2.2.2.2.2.2.2.2.2.2.2.2.2.2.2.2.2.1 (by decide) (fun c25 => ?_) (fun c25 => ?_)
    · replace hf := (if_neg c25).symm.trans hf
      refine g_lv [1, 2, 3, 4, 5, 6, 7, 0] rfl ?_
      exact t_M_entry_82 rec39 hrec39 _ _ _ _ _ _ _ _ _ _ _  hf
    · replace hf := (if_pos c25).symm.trans hf
      refine g_iload (pc := 77) 7 dd_M_entry_42.2.2.2.2.2.2.2.2.2.2.2.2.2.2.2.2.2.2.1 rfl ?_
      refine g_goto (pc := 79) 84 dd_M_entry_42.2.2.2.2.2.2.2.2.2.2.2.2.2.2.2.2.2.2.2.1 (by decide) ?_
      refine g_lv [1, 2, 3, 4, 6, 7, 0] rfl ?_
      exact t_M_entry_84 rec39 hrec39 _ _ _ _ _ _ _ _ _ _ _  hf
def f_M_entry_39b (rec39 : Nat → Int32 → Int32 → Int32 → Int32 → Int32 → Int32 → mH → Option (Int32 × mH)) (b0 : Nat) (b1 : Int32) (b2 : Int32) (b3 : Int32) (b4 : Int32) (b5 : Int32) (b6 : Int32) (h : mH) : Option (Int32 × mH) :=
  if (3 : Int32) < b6 then
    if b3 = 0 then
      some (b4, h)
    else
      some (b5, h)
  else
    bd1 (kC h b0 8) fun _ =>
    bd2 (f_M_tablesBy b0 b1 b2 b6 h) fun x22 h20 =>
    if (lg_cmp x22 (0 : Int64)) ≤ 0 then
      f_M_entry_63 rec39 b0 b1 b2 b3 b4 b5 b6 (0 : Int32) h20
    else
      f_M_entry_63 rec39 b0 b1 b2 b3 b4 b5 b6 (1 : Int32) h20
set_option maxRecDepth 20000 in
theorem t_M_entry_39b {sc : Nat × (Nat → Int32)} (rec39 : Nat → Int32 → Int32 → Int32 → Int32 → Int32 → Int32 → mH → Option (Int32 × mH)) (hrec39 : ∀ (b0 : Nat) (b1 : Int32) (b2 : Int32) (b3 : Int32) (b4 : Int32) (b5 : Int32) (b6 : Int32) (h : mH) (r : Int32) (h' : mH), rec39 b0 b1 b2 b3 b4 b5 b6 h = some (r, h') → G sc y_M_entry prog_10_method_81_code 8 (some .int) 3 81 39 [(0, .ref b0), (1, .int b1), (2, .int b2), (3, .int b3), (4, .int b4), (5, .int b5), (6, .int b6)] [] h (some (.int r)) h') (b0 : Nat) (b1 : Int32) (b2 : Int32) (b3 : Int32) (b4 : Int32) (b5 : Int32) (b6 : Int32) (h : mH) (r : Int32) (h' : mH) (hf : f_M_entry_39b rec39 b0 b1 b2 b3 b4 b5 b6 h = some (r, h')) : G sc y_M_entry prog_10_method_81_code 8 (some .int) 3 81 39 [(0, .ref b0), (1, .int b1), (2, .int b2), (3, .int b3), (4, .int b4), (5, .int b5), (6, .int b6)] [] h (some (.int r)) h' := by
  unfold f_M_entry_39b at hf
  refine g_iload (pc := 39) 6 dd_M_entry_0.2.2.2.2.2.2.2.2.2.2.2.2.2.2.2.2.2.2.2.2.2.2.1 rfl ?_
  refine g_iconst (pc := 41) (3 : Int32) dd_M_entry_0.2.2.2.2.2.2.2.2.2.2.2.2.2.2.2.2.2.2.2.2.2.2.2 (by decide) ?_
  refine g_icmpgt (pc := 42) 106 dd_M_entry_42.1 (by decide) (fun c24 => ?_) (fun c24 => ?_)
  · replace hf := (if_pos c24).symm.trans hf
    refine g_iload_n (pc := 106) 3 dd_M_entry_91.2.2.2.2.2.2.1 rfl rfl ?_
    refine g_ifne (pc := 107) 115 dd_M_entry_91.2.2.2.2.2.2.2.1 (by decide) (fun c17 => ?_) (fun c17 => ?_)
    · replace hf := (if_neg c17).symm.trans hf
      refine g_iload (pc := 115) 5 dd_M_entry_91.2.2.2.2.2.2.2.2.2.2.1 rfl ?_
      obtain ⟨rfl, rfl⟩ := ret2 hf
      exact g_iret (pc := 117) rfl dd_M_entry_91.2.2.2.2.2.2.2.2.2.2.2
    · replace hf := (if_pos c17).symm.trans hf
      refine g_iload (pc := 110) 4 dd_M_entry_91.2.2.2.2.2.2.2.2.1 rfl ?_
      refine g_goto (pc := 112) 117 dd_M_entry_91.2.2.2.2.2.2.2.2.2.1 (by decide) ?_
      obtain ⟨rfl, rfl⟩ := ret2 hf
      exact g_iret (pc := 117) rfl dd_M_entry_91.2.2.2.2.2.2.2.2.2.2.2
  · replace hf := (if_neg c24).symm.trans hf
    refine g_aload_n (pc := 45) 0 dd_M_entry_42.2.1 rfl rfl ?_
    refine g_iload_n (pc := 46) 1 dd_M_entry_42.2.2.1 rfl rfl ?_
    refine g_iload_n (pc := 47) 2 dd_M_entry_42.2.2.2.1 rfl rfl ?_
    refine g_iload (pc := 48) 6 dd_M_entry_42.2.2.2.2.1 rfl ?_
    obtain ⟨u19, e18, hf⟩ := bd1_e hf
    obtain ⟨x22, h20, e21, hf⟩ := bd2_e hf
    refine g_callV (pc := 50) (ci := 8) [.int b1, .int b2, .int b6] (site_of si_M_tablesBy (by decide) (by decide)) wd_1341 wd_1343 wp_67 dd_M_entry_42.2.2.2.2.2.1 rfl e18 (Nat.le_of_ble_eq_true rfl) (fun z => absurd z si_na_M_tablesBy) (fun z => absurd z si_na_M_tablesBy) (fun z => absurd z si_na_M_tablesBy) (c_M_tablesBy e21) rfl ?_
    refine g_st [.long x22] rfl ?_
    refine g_lconst (pc := 53) (0 : Int64) dd_M_entry_42.2.2.2.2.2.2.1 (by decide) ?_
    refine g_lcmp (pc := 54) dd_M_entry_42.2.2.2.2.2.2.2.1 ?_
    refine g_ifle (pc := 55) 62 dd_M_entry_42.2.2.2.2.2.2.2.2.1 (by decide) (fun c23 => ?_) (fun c23 => ?_)
    · replace hf := (if_pos c23).symm.trans hf
      refine g_iconst (pc := 62) (0 : Int32) dd_M_entry_42.2.2.2.2.2.2.2.2.2.2.2.1 (by decide) ?_
      refine g_lv [0, 1, 2, 3, 4, 5, 6] rfl ?_
      exact t_M_entry_63 rec39 hrec39 _ _ _ _ _ _ _ _ _ _ _  hf
    · replace hf := (if_neg c23).symm.trans hf
      refine g_iconst (pc := 58) (1 : Int32) dd_M_entry_42.2.2.2.2.2.2.2.2.2.1 (by decide) ?_
      refine g_goto (pc := 59) 63 dd_M_entry_42.2.2.2.2.2.2.2.2.2.2.1 (by decide) ?_
      refine g_lv [0, 1, 2, 3, 4, 5, 6] rfl ?_
      exact t_M_entry_63 rec39 hrec39 _ _ _ _ _ _ _ _ _ _ _  hf
def f_M_entry_39  : Nat → Nat → Int32 → Int32 → Int32 → Int32 → Int32 → Int32 → mH → Option (Int32 × mH)
  | 0 => fun _ _ _ _ _ _ _ _ => none
  | n + 1 => f_M_entry_39b  (f_M_entry_39  n)
theorem t_M_entry_39 {sc : Nat × (Nat → Int32)}  : ∀ (n : Nat) (b0 : Nat) (b1 : Int32) (b2 : Int32) (b3 : Int32) (b4 : Int32) (b5 : Int32) (b6 : Int32) (h : mH) (r : Int32) (h' : mH) (hf : f_M_entry_39  n b0 b1 b2 b3 b4 b5 b6 h = some (r, h')), G sc y_M_entry prog_10_method_81_code 8 (some .int) 3 81 39 [(0, .ref b0), (1, .int b1), (2, .int b2), (3, .int b3), (4, .int b4), (5, .int b5), (6, .int b6)] [] h (some (.int r)) h'
  | 0, _, _, _, _, _, _, _, _, _, _, hf => by cases hf
  | n + 1, _, _, _, _, _, _, _, _, _, _, hf => t_M_entry_39b  (f_M_entry_39  n) (t_M_entry_39  n) _ _ _ _ _ _ _ _ _ _ hf
def f_M_entry_26   (h : mH) : Option (Int32 × mH) :=
  some (((-1) : Int32), h)
set_option maxRecDepth 20000 in
theorem t_M_entry_26 {sc : Nat × (Nat → Int32)}   (h : mH) (r : Int32) (h' : mH) (hf : f_M_entry_26   h = some (r, h')) : G sc y_M_entry prog_10_method_81_code 8 (some .int) 3 81 26 [] [] h (some (.int r)) h' := by
  unfold f_M_entry_26 at hf
  refine g_iconst (pc := 26) ((-1) : Int32) dd_M_entry_0.2.2.2.2.2.2.2.2.2.2.2.2.2.2.1 (by decide) ?_
  obtain ⟨rfl, rfl⟩ := ret2 hf
  exact g_iret (pc := 27) rfl dd_M_entry_0.2.2.2.2.2.2.2.2.2.2.2.2.2.2.2.1
def f_M_entry_0  (a0 : Nat) (a1 : Int32) (a2 : Int32) (a3 : Int32) (h : mH) : Option (Int32 × mH) :=
  bd1 (kC h a0 8) fun _ =>
  bd2 (f_M_isOne a0 a1 h) fun x5 h3 =>
  if x5 = 0 then
    f_M_entry_26  h3
  else
    bd1 (kC h3 a0 8) fun _ =>
    bd2 (f_M_isLaw a0 a2 h3) fun x10 h8 =>
    if x10 = 0 then
      f_M_entry_26  h8
    else
      bd2 (f_M_in a3.toInt64 (0 : Int64) (1 : Int64) h8) fun x13 h11 =>
      if x13 = 0 then
        f_M_entry_26  h11
      else
        f_M_entry_39  FU a0 a1 a2 a3 ((-4) : Int32) ((-4) : Int32) (0 : Int32) h11
set_option maxRecDepth 20000 in
theorem t_M_entry_0 {sc : Nat × (Nat → Int32)}  (a0 : Nat) (a1 : Int32) (a2 : Int32) (a3 : Int32) (h : mH) (r : Int32) (h' : mH) (hf : f_M_entry_0  a0 a1 a2 a3 h = some (r, h')) : G sc y_M_entry prog_10_method_81_code 8 (some .int) 3 81 0 [(0, .ref a0), (1, .int a1), (2, .int a2), (3, .int a3)] [] h (some (.int r)) h' := by
  unfold f_M_entry_0 at hf
  refine g_aload_n (pc := 0) 0 dd_M_entry_0.1 rfl rfl ?_
  refine g_iload_n (pc := 1) 1 dd_M_entry_0.2.1 rfl rfl ?_
  obtain ⟨u2, e1, hf⟩ := bd1_e hf
  obtain ⟨x5, h3, e4, hf⟩ := bd2_e hf
  refine g_callV (pc := 2) (ci := 8) [.int a1] (site_of si_M_isOne (by decide) (by decide)) wd_1160 wd_1162 wp_49 dd_M_entry_0.2.2.1 rfl e1 (Nat.le_of_ble_eq_true rfl) (fun z => absurd z si_na_M_isOne) (fun z => absurd z si_na_M_isOne) (fun z => absurd z si_na_M_isOne) (c_M_isOne e4) rfl ?_
  refine g_st [.int x5] rfl ?_
  refine g_ifeq (pc := 5) 26 dd_M_entry_0.2.2.2.1 (by decide) (fun c16 => ?_) (fun c16 => ?_)
  · replace hf := (if_pos c16).symm.trans hf
    refine g_lv [] rfl ?_
    exact t_M_entry_26  _ _ _  hf
  · replace hf := (if_neg c16).symm.trans hf
    refine g_aload_n (pc := 8) 0 dd_M_entry_0.2.2.2.2.1 rfl rfl ?_
    refine g_iload_n (pc := 9) 2 dd_M_entry_0.2.2.2.2.2.1 rfl rfl ?_
    obtain ⟨u7, e6, hf⟩ := bd1_e hf
    obtain ⟨x10, h8, e9, hf⟩ := bd2_e hf
    refine g_callV (pc := 10) (ci := 8) [.int a2] (site_of si_M_isLaw (by decide) (by decide)) wd_1136 wd_1138 wp_44 dd_M_entry_0.2.2.2.2.2.2.1 rfl e6 (Nat.le_of_ble_eq_true rfl) (fun z => absurd z si_na_M_isLaw) (fun z => absurd z si_na_M_isLaw) (fun z => absurd z si_na_M_isLaw) (c_M_isLaw e9) rfl ?_
    refine g_st [.int x10] rfl ?_
    refine g_ifeq (pc := 13) 26 dd_M_entry_0.2.2.2.2.2.2.2.1 (by decide) (fun c15 => ?_) (fun c15 => ?_)
    · replace hf := (if_pos c15).symm.trans hf
      refine g_lv [] rfl ?_
      exact t_M_entry_26  _ _ _  hf
    · replace hf := (if_neg c15).symm.trans hf
      refine g_iload_n (pc := 16) 3 dd_M_entry_0.2.2.2.2.2.2.2.2.1 rfl rfl ?_
      refine g_i2l (pc := 17) dd_M_entry_0.2.2.2.2.2.2.2.2.2.1 ?_
      refine g_lconst (pc := 18) (0 : Int64) dd_M_entry_0.2.2.2.2.2.2.2.2.2.2.1 (by decide) ?_
      refine g_lconst (pc := 19) (1 : Int64) dd_M_entry_0.2.2.2.2.2.2.2.2.2.2.2.1 (by decide) ?_
      obtain ⟨x13, h11, e12, hf⟩ := bd2_e hf
      refine g_callS (pc := 20) [.long a3.toInt64, .long (0 : Int64), .long (1 : Int64)] (site_of si_M_in (by decide) (by decide)) wd_1061 wd_1062 dd_M_entry_0.2.2.2.2.2.2.2.2.2.2.2.2.1 (Nat.le_of_ble_eq_true rfl) (fun z => absurd z si_na_M_in) (fun z => absurd z si_na_M_in) (fun z => absurd z si_na_M_in) (c_M_in e12) rfl ?_
      refine g_st [.int x13] rfl ?_
      refine g_ifne (pc := 23) 28 dd_M_entry_0.2.2.2.2.2.2.2.2.2.2.2.2.2.1 (by decide) (fun c14 => ?_) (fun c14 => ?_)
      · replace hf := (if_neg c14).symm.trans hf
        refine g_bipush (pc := 28) ((-4) : Int32) dd_M_entry_0.2.2.2.2.2.2.2.2.2.2.2.2.2.2.2.2.1 (by decide) ?_
        refine g_istore (pc := 30) [(4, .int ((-4) : Int32)), (0, .ref a0), (1, .int a1), (2, .int a2), (3, .int a3)] dd_M_entry_0.2.2.2.2.2.2.2.2.2.2.2.2.2.2.2.2.2.1 (Nat.le_of_ble_eq_true rfl) rfl ?_
        refine g_bipush (pc := 32) ((-4) : Int32) dd_M_entry_0.2.2.2.2.2.2.2.2.2.2.2.2.2.2.2.2.2.2.1 (by decide) ?_
        refine g_istore (pc := 34) [(5, .int ((-4) : Int32)), (4, .int ((-4) : Int32)), (0, .ref a0), (1, .int a1), (2, .int a2), (3, .int a3)] dd_M_entry_0.2.2.2.2.2.2.2.2.2.2.2.2.2.2.2.2.2.2.2.1 (Nat.le_of_ble_eq_true rfl) rfl ?_
        refine g_iconst (pc := 36) (0 : Int32) dd_M_entry_0.2.2.2.2.2.2.2.2.2.2.2.2.2.2.2.2.2.2.2.2.1 (by decide) ?_
        refine g_istore (pc := 37) [(6, .int (0 : Int32)), (5, .int ((-4) : Int32)), (4, .int ((-4) : Int32)), (0, .ref a0), (1, .int a1), (2, .int a2), (3, .int a3)] dd_M_entry_0.2.2.2.2.2.2.2.2.2.2.2.2.2.2.2.2.2.2.2.2.2.1 (Nat.le_of_ble_eq_true rfl) rfl ?_
        refine g_lv [3, 4, 5, 6, 2, 1, 0] rfl ?_
        exact t_M_entry_39  FU _ _ _ _ _ _ _ _ _ _  hf
      · replace hf := (if_pos c14).symm.trans hf
        refine g_lv [] rfl ?_
        exact t_M_entry_26  _ _ _  hf
def f_M_entry (a0 : Nat) (a1 : Int32) (a2 : Int32) (a3 : Int32) (h : mH) : Option (Int32 × mH) := f_M_entry_0 a0 a1 a2 a3 h
theorem c_M_entry {sc : Nat × (Nat → Int32)} {a0 : Nat} {a1 : Int32} {a2 : Int32} {a3 : Int32} {h : mH} {r : Int32} {h' : mH} (hf : f_M_entry a0 a1 a2 a3 h = some (r, h')) : MM sc y_M_entry prog_10_method_81_code 8 (some .int) 3 81 [.ref a0, .int a1, .int a2, .int a3] h (some (.int r)) h' :=
  mm_of_G si_pn_M (Nat.le_of_ble_eq_true rfl) (t_M_entry_0 _ _ _ _ _ _ _ hf)
/-! M wild (III)I -/
set_option maxRecDepth 100000 in
theorem dd_M_wild_0 : (decode prog_10_method_82_code 0 = .ok (.iload_n 2, 1)) ∧ (decode prog_10_method_82_code 1 = .ok (.i2l, 1)) ∧ (decode prog_10_method_82_code 2 = .ok (.lconst 1, 1)) ∧ (decode prog_10_method_82_code 3 = .ok (.ldc2_w 319, 3)) ∧ (decode prog_10_method_82_code 6 = .ok (.invokestatic 114, 3)) ∧ (decode prog_10_method_82_code 9 = .ok (.ifCond .eq 13, 3)) ∧ (decode prog_10_method_82_code 12 = .ok (.iload_n 3, 1)) ∧ (decode prog_10_method_82_code 13 = .ok (.i2l, 1)) ∧ (decode prog_10_method_82_code 14 = .ok (.lconst 0, 1)) ∧ (decode prog_10_method_82_code 15 = .ok (.lconst 1, 1)) ∧ (decode prog_10_method_82_code 16 = .ok (.invokestatic 114, 3)) ∧ (decode prog_10_method_82_code 19 = .ok (.ifCond .ne 5, 3)) ∧ (decode prog_10_method_82_code 22 = .ok (.iconst (-1), 1)) ∧ (decode prog_10_method_82_code 23 = .ok (.ireturn, 1)) ∧ (decode prog_10_method_82_code 24 = .ok (.aload_n 0, 1)) ∧ (decode prog_10_method_82_code 25 = .ok (.getfield 109, 3)) ∧ (decode prog_10_method_82_code 28 = .ok (.ifCond .eq 10, 3)) ∧ (decode prog_10_method_82_code 31 = .ok (.aload_n 0, 1)) ∧ (decode prog_10_method_82_code 32 = .ok (.getfield 106, 3)) ∧ (decode prog_10_method_82_code 35 = .ok (.ifCond .ne 6, 3)) ∧ (decode prog_10_method_82_code 38 = .ok (.bipush (-2), 2)) ∧ (decode prog_10_method_82_code 40 = .ok (.ireturn, 1)) ∧ (decode prog_10_method_82_code 41 = .ok (.aload_n 0, 1)) ∧ (decode prog_10_method_82_code 42 = .ok (.invokevirtual 275, 3)) := by
  have h : List.drop 0 prog_10_method_82_code.data.toList = 0x1c :: _ := rfl
  refine ⟨zq_k_n 28 h rfl (zq_o_28 _), ?_⟩
  replace h := zq_nx1 (q := 1) h rfl
  refine ⟨zq_k_n 133 h rfl (zq_o_133 _), ?_⟩
  replace h := zq_nx1 (q := 2) h rfl
  refine ⟨zq_k_n 10 h rfl (zq_o_10 _), ?_⟩
  replace h := zq_nx1 (q := 3) h rfl
  refine ⟨zq_k_u2 20 (fun z => .ldc2_w z) 319 h rfl (zq_o_20 _) (by decide +kernel), ?_⟩
  replace h := zq_nx3 (q := 6) h rfl
  refine ⟨zq_k_u2 184 (fun z => .invokestatic z) 114 h rfl (zq_o_184 _) (by decide +kernel), ?_⟩
  replace h := zq_nx3 (q := 9) h rfl
  refine ⟨zq_k_s2 153 (fun z => .ifCond .eq z) 13 h rfl (zq_o_153 _) (by decide +kernel), ?_⟩
  replace h := zq_nx3 (q := 12) h rfl
  refine ⟨zq_k_n 29 h rfl (zq_o_29 _), ?_⟩
  replace h := zq_nx1 (q := 13) h rfl
  refine ⟨zq_k_n 133 h rfl (zq_o_133 _), ?_⟩
  replace h := zq_nx1 (q := 14) h rfl
  refine ⟨zq_k_n 9 h rfl (zq_o_9 _), ?_⟩
  replace h := zq_nx1 (q := 15) h rfl
  refine ⟨zq_k_n 10 h rfl (zq_o_10 _), ?_⟩
  replace h := zq_nx1 (q := 16) h rfl
  refine ⟨zq_k_u2 184 (fun z => .invokestatic z) 114 h rfl (zq_o_184 _) (by decide +kernel), ?_⟩
  replace h := zq_nx3 (q := 19) h rfl
  refine ⟨zq_k_s2 154 (fun z => .ifCond .ne z) 5 h rfl (zq_o_154 _) (by decide +kernel), ?_⟩
  replace h := zq_nx3 (q := 22) h rfl
  refine ⟨zq_k_n 2 h rfl (zq_o_2 _), ?_⟩
  replace h := zq_nx1 (q := 23) h rfl
  refine ⟨zq_k_n 172 h rfl (zq_o_172 _), ?_⟩
  replace h := zq_nx1 (q := 24) h rfl
  refine ⟨zq_k_n 42 h rfl (zq_o_42 _), ?_⟩
  replace h := zq_nx1 (q := 25) h rfl
  refine ⟨zq_k_u2 180 (fun z => .getfield z) 109 h rfl (zq_o_180 _) (by decide +kernel), ?_⟩
  replace h := zq_nx3 (q := 28) h rfl
  refine ⟨zq_k_s2 153 (fun z => .ifCond .eq z) 10 h rfl (zq_o_153 _) (by decide +kernel), ?_⟩
  replace h := zq_nx3 (q := 31) h rfl
  refine ⟨zq_k_n 42 h rfl (zq_o_42 _), ?_⟩
  replace h := zq_nx1 (q := 32) h rfl
  refine ⟨zq_k_u2 180 (fun z => .getfield z) 106 h rfl (zq_o_180 _) (by decide +kernel), ?_⟩
  replace h := zq_nx3 (q := 35) h rfl
  refine ⟨zq_k_s2 154 (fun z => .ifCond .ne z) 6 h rfl (zq_o_154 _) (by decide +kernel), ?_⟩
  replace h := zq_nx3 (q := 38) h rfl
  refine ⟨zq_k_s1 16 (fun z => .bipush z) (-2) h rfl (zq_o_16 _) (by decide +kernel), ?_⟩
  replace h := zq_nx2 (q := 40) h rfl
  refine ⟨zq_k_n 172 h rfl (zq_o_172 _), ?_⟩
  replace h := zq_nx1 (q := 41) h rfl
  refine ⟨zq_k_n 42 h rfl (zq_o_42 _), ?_⟩
  replace h := zq_nx1 (q := 42) h rfl
  exact zq_k_u2 182 (fun z => .invokevirtual z) 275 h rfl (zq_o_182 _) (by decide +kernel)
set_option maxRecDepth 100000 in
theorem dd_M_wild_45 : (decode prog_10_method_82_code 45 = .ok (.iload_n 1, 1)) ∧ (decode prog_10_method_82_code 46 = .ok (.istore 4, 2)) ∧ (decode prog_10_method_82_code 48 = .ok (.iconst 0, 1)) ∧ (decode prog_10_method_82_code 49 = .ok (.istore 5, 2)) ∧ (decode prog_10_method_82_code 51 = .ok (.iconst 0, 1)) ∧ (decode prog_10_method_82_code 52 = .ok (.istore 6, 2)) ∧ (decode prog_10_method_82_code 54 = .ok (.iload 6, 2)) ∧ (decode prog_10_method_82_code 56 = .ok (.iload_n 2, 1)) ∧ (decode prog_10_method_82_code 57 = .ok (.if_icmp .ge 85, 3)) ∧ (decode prog_10_method_82_code 60 = .ok (.iload 4, 2)) ∧ (decode prog_10_method_82_code 62 = .ok (.ldc_w 321, 3)) ∧ (decode prog_10_method_82_code 65 = .ok (.imul, 1)) ∧ (decode prog_10_method_82_code 66 = .ok (.sipush 12345, 3)) ∧ (decode prog_10_method_82_code 69 = .ok (.iadd, 1)) ∧ (decode prog_10_method_82_code 70 = .ok (.istore 4, 2)) ∧ (decode prog_10_method_82_code 72 = .ok (.iload 4, 2)) ∧ (decode prog_10_method_82_code 74 = .ok (.bipush 16, 2)) ∧ (decode prog_10_method_82_code 76 = .ok (.ishr, 1)) ∧ (decode prog_10_method_82_code 77 = .ok (.sipush 32767, 3)) ∧ (decode prog_10_method_82_code 80 = .ok (.iand, 1)) ∧ (decode prog_10_method_82_code 81 = .ok (.aload_n 0, 1)) ∧ (decode prog_10_method_82_code 82 = .ok (.getfield 109, 3)) ∧ (decode prog_10_method_82_code 85 = .ok (.irem, 1)) ∧ (decode prog_10_method_82_code 86 = .ok (.istore 7, 2)) := by
  have h : List.drop 45 prog_10_method_82_code.data.toList = 0x1b :: _ := rfl
  refine ⟨zq_k_n 27 h rfl (zq_o_27 _), ?_⟩
  replace h := zq_nx1 (q := 46) h rfl
  refine ⟨zq_k_u1 54 (fun z => .istore z) 4 h rfl (zq_o_54 _) (by decide +kernel), ?_⟩
  replace h := zq_nx2 (q := 48) h rfl
  refine ⟨zq_k_n 3 h rfl (zq_o_3 _), ?_⟩
  replace h := zq_nx1 (q := 49) h rfl
  refine ⟨zq_k_u1 54 (fun z => .istore z) 5 h rfl (zq_o_54 _) (by decide +kernel), ?_⟩
  replace h := zq_nx2 (q := 51) h rfl
  refine ⟨zq_k_n 3 h rfl (zq_o_3 _), ?_⟩
  replace h := zq_nx1 (q := 52) h rfl
  refine ⟨zq_k_u1 54 (fun z => .istore z) 6 h rfl (zq_o_54 _) (by decide +kernel), ?_⟩
  replace h := zq_nx2 (q := 54) h rfl
  refine ⟨zq_k_u1 21 (fun z => .iload z) 6 h rfl (zq_o_21 _) (by decide +kernel), ?_⟩
  replace h := zq_nx2 (q := 56) h rfl
  refine ⟨zq_k_n 28 h rfl (zq_o_28 _), ?_⟩
  replace h := zq_nx1 (q := 57) h rfl
  refine ⟨zq_k_s2 162 (fun z => .if_icmp .ge z) 85 h rfl (zq_o_162 _) (by decide +kernel), ?_⟩
  replace h := zq_nx3 (q := 60) h rfl
  refine ⟨zq_k_u1 21 (fun z => .iload z) 4 h rfl (zq_o_21 _) (by decide +kernel), ?_⟩
  replace h := zq_nx2 (q := 62) h rfl
  refine ⟨zq_k_u2 19 (fun z => .ldc_w z) 321 h rfl (zq_o_19 _) (by decide +kernel), ?_⟩
  replace h := zq_nx3 (q := 65) h rfl
  refine ⟨zq_k_n 104 h rfl (zq_o_104 _), ?_⟩
  replace h := zq_nx1 (q := 66) h rfl
  refine ⟨zq_k_s2 17 (fun z => .sipush z) 12345 h rfl (zq_o_17 _) (by decide +kernel), ?_⟩
  replace h := zq_nx3 (q := 69) h rfl
  refine ⟨zq_k_n 96 h rfl (zq_o_96 _), ?_⟩
  replace h := zq_nx1 (q := 70) h rfl
  refine ⟨zq_k_u1 54 (fun z => .istore z) 4 h rfl (zq_o_54 _) (by decide +kernel), ?_⟩
  replace h := zq_nx2 (q := 72) h rfl
  refine ⟨zq_k_u1 21 (fun z => .iload z) 4 h rfl (zq_o_21 _) (by decide +kernel), ?_⟩
  replace h := zq_nx2 (q := 74) h rfl
  refine ⟨zq_k_s1 16 (fun z => .bipush z) 16 h rfl (zq_o_16 _) (by decide +kernel), ?_⟩
  replace h := zq_nx2 (q := 76) h rfl
  refine ⟨zq_k_n 122 h rfl (zq_o_122 _), ?_⟩
  replace h := zq_nx1 (q := 77) h rfl
  refine ⟨zq_k_s2 17 (fun z => .sipush z) 32767 h rfl (zq_o_17 _) (by decide +kernel), ?_⟩
  replace h := zq_nx3 (q := 80) h rfl
  refine ⟨zq_k_n 126 h rfl (zq_o_126 _), ?_⟩
  replace h := zq_nx1 (q := 81) h rfl
  refine ⟨zq_k_n 42 h rfl (zq_o_42 _), ?_⟩
  replace h := zq_nx1 (q := 82) h rfl
  refine ⟨zq_k_u2 180 (fun z => .getfield z) 109 h rfl (zq_o_180 _) (by decide +kernel), ?_⟩
  replace h := zq_nx3 (q := 85) h rfl
  refine ⟨zq_k_n 112 h rfl (zq_o_112 _), ?_⟩
  replace h := zq_nx1 (q := 86) h rfl
  exact zq_k_u1 54 (fun z => .istore z) 7 h rfl (zq_o_54 _) (by decide +kernel)
set_option maxRecDepth 100000 in
theorem dd_M_wild_88 : (decode prog_10_method_82_code 88 = .ok (.iload 4, 2)) ∧ (decode prog_10_method_82_code 90 = .ok (.ldc_w 321, 3)) ∧ (decode prog_10_method_82_code 93 = .ok (.imul, 1)) ∧ (decode prog_10_method_82_code 94 = .ok (.sipush 12345, 3)) ∧ (decode prog_10_method_82_code 97 = .ok (.iadd, 1)) ∧ (decode prog_10_method_82_code 98 = .ok (.istore 4, 2)) ∧ (decode prog_10_method_82_code 100 = .ok (.iload 5, 2)) ∧ (decode prog_10_method_82_code 102 = .ok (.aload_n 0, 1)) ∧ (decode prog_10_method_82_code 103 = .ok (.iload 7, 2)) ∧ (decode prog_10_method_82_code 105 = .ok (.iload 4, 2)) ∧ (decode prog_10_method_82_code 107 = .ok (.bipush 16, 2)) ∧ (decode prog_10_method_82_code 109 = .ok (.ishr, 1)) ∧ (decode prog_10_method_82_code 110 = .ok (.sipush 32767, 3)) ∧ (decode prog_10_method_82_code 113 = .ok (.iand, 1)) ∧ (decode prog_10_method_82_code 114 = .ok (.aload_n 0, 1)) ∧ (decode prog_10_method_82_code 115 = .ok (.getfield 106, 3)) ∧ (decode prog_10_method_82_code 118 = .ok (.irem, 1)) ∧ (decode prog_10_method_82_code 119 = .ok (.invokevirtual 322, 3)) ∧ (decode prog_10_method_82_code 122 = .ok (.ifCond .lt 7, 3)) ∧ (decode prog_10_method_82_code 125 = .ok (.iconst 1, 1)) ∧ (decode prog_10_method_82_code 126 = .ok (.goto 4, 3)) ∧ (decode prog_10_method_82_code 129 = .ok (.iconst 0, 1)) ∧ (decode prog_10_method_82_code 130 = .ok (.invokestatic 220, 3)) ∧ (decode prog_10_method_82_code 133 = .ok (.iadd, 1)) := by
  have h : List.drop 88 prog_10_method_82_code.data.toList = 0x15 :: _ := rfl
  refine ⟨zq_k_u1 21 (fun z => .iload z) 4 h rfl (zq_o_21 _) (by decide +kernel), ?_⟩
  replace h := zq_nx2 (q := 90) h rfl
  refine ⟨zq_k_u2 19 (fun z => .ldc_w z) 321 h rfl (zq_o_19 _) (by decide +kernel), ?_⟩
  replace h := zq_nx3 (q := 93) h rfl
  refine ⟨zq_k_n 104 h rfl (zq_o_104 _), ?_⟩
  replace h := zq_nx1 (q := 94) h rfl
  refine ⟨zq_k_s2 17 (fun z => .sipush z) 12345 h rfl (zq_o_17 _) (by decide +kernel), ?_⟩
  replace h := zq_nx3 (q := 97) h rfl
  refine ⟨zq_k_n 96 h rfl (zq_o_96 _), ?_⟩
  replace h := zq_nx1 (q := 98) h rfl
  refine ⟨zq_k_u1 54 (fun z => .istore z) 4 h rfl (zq_o_54 _) (by decide +kernel), ?_⟩
  replace h := zq_nx2 (q := 100) h rfl
  refine ⟨zq_k_u1 21 (fun z => .iload z) 5 h rfl (zq_o_21 _) (by decide +kernel), ?_⟩
  replace h := zq_nx2 (q := 102) h rfl
  refine ⟨zq_k_n 42 h rfl (zq_o_42 _), ?_⟩
  replace h := zq_nx1 (q := 103) h rfl
  refine ⟨zq_k_u1 21 (fun z => .iload z) 7 h rfl (zq_o_21 _) (by decide +kernel), ?_⟩
  replace h := zq_nx2 (q := 105) h rfl
  refine ⟨zq_k_u1 21 (fun z => .iload z) 4 h rfl (zq_o_21 _) (by decide +kernel), ?_⟩
  replace h := zq_nx2 (q := 107) h rfl
  refine ⟨zq_k_s1 16 (fun z => .bipush z) 16 h rfl (zq_o_16 _) (by decide +kernel), ?_⟩
  replace h := zq_nx2 (q := 109) h rfl
  refine ⟨zq_k_n 122 h rfl (zq_o_122 _), ?_⟩
  replace h := zq_nx1 (q := 110) h rfl
  refine ⟨zq_k_s2 17 (fun z => .sipush z) 32767 h rfl (zq_o_17 _) (by decide +kernel), ?_⟩
  replace h := zq_nx3 (q := 113) h rfl
  refine ⟨zq_k_n 126 h rfl (zq_o_126 _), ?_⟩
  replace h := zq_nx1 (q := 114) h rfl
  refine ⟨zq_k_n 42 h rfl (zq_o_42 _), ?_⟩
  replace h := zq_nx1 (q := 115) h rfl
  refine ⟨zq_k_u2 180 (fun z => .getfield z) 106 h rfl (zq_o_180 _) (by decide +kernel), ?_⟩
  replace h := zq_nx3 (q := 118) h rfl
  refine ⟨zq_k_n 112 h rfl (zq_o_112 _), ?_⟩
  replace h := zq_nx1 (q := 119) h rfl
  refine ⟨zq_k_u2 182 (fun z => .invokevirtual z) 322 h rfl (zq_o_182 _) (by decide +kernel), ?_⟩
  replace h := zq_nx3 (q := 122) h rfl
  refine ⟨zq_k_s2 155 (fun z => .ifCond .lt z) 7 h rfl (zq_o_155 _) (by decide +kernel), ?_⟩
  replace h := zq_nx3 (q := 125) h rfl
  refine ⟨zq_k_n 4 h rfl (zq_o_4 _), ?_⟩
  replace h := zq_nx1 (q := 126) h rfl
  refine ⟨zq_k_s2 167 (fun z => .goto z) 4 h rfl (zq_o_167 _) (by decide +kernel), ?_⟩
  replace h := zq_nx3 (q := 129) h rfl
  refine ⟨zq_k_n 3 h rfl (zq_o_3 _), ?_⟩
  replace h := zq_nx1 (q := 130) h rfl
  refine ⟨zq_k_u2 184 (fun z => .invokestatic z) 220 h rfl (zq_o_184 _) (by decide +kernel), ?_⟩
  replace h := zq_nx3 (q := 133) h rfl
  exact zq_k_n 96 h rfl (zq_o_96 _)
set_option maxRecDepth 100000 in
theorem dd_M_wild_134 : (decode prog_10_method_82_code 134 = .ok (.istore 5, 2)) ∧ (decode prog_10_method_82_code 136 = .ok (.iinc 6 1, 3)) ∧ (decode prog_10_method_82_code 139 = .ok (.goto (-85), 3)) ∧ (decode prog_10_method_82_code 142 = .ok (.aload_n 0, 1)) ∧ (decode prog_10_method_82_code 143 = .ok (.invokevirtual 240, 3)) ∧ (decode prog_10_method_82_code 146 = .ok (.istore 6, 2)) ∧ (decode prog_10_method_82_code 148 = .ok (.aload_n 0, 1)) ∧ (decode prog_10_method_82_code 149 = .ok (.invokevirtual 281, 3)) ∧ (decode prog_10_method_82_code 152 = .ok (.iload_n 3, 1)) ∧ (decode prog_10_method_82_code 153 = .ok (.ifCond .ne 8, 3)) ∧ (decode prog_10_method_82_code 156 = .ok (.iload 5, 2)) ∧ (decode prog_10_method_82_code 158 = .ok (.goto 5, 3)) ∧ (decode prog_10_method_82_code 161 = .ok (.iload 6, 2)) ∧ (decode prog_10_method_82_code 163 = .ok (.ireturn, 1)) := by
  have h : List.drop 134 prog_10_method_82_code.data.toList = 0x36 :: _ := rfl
  refine ⟨zq_k_u1 54 (fun z => .istore z) 5 h rfl (zq_o_54 _) (by decide +kernel), ?_⟩
  replace h := zq_nx2 (q := 136) h rfl
  refine ⟨zq_k_iinc 6 1 h rfl (zq_o_132 _) (by decide +kernel) (by decide +kernel), ?_⟩
  replace h := zq_nx3 (q := 139) h rfl
  refine ⟨zq_k_s2 167 (fun z => .goto z) (-85) h rfl (zq_o_167 _) (by decide +kernel), ?_⟩
  replace h := zq_nx3 (q := 142) h rfl
  refine ⟨zq_k_n 42 h rfl (zq_o_42 _), ?_⟩
  replace h := zq_nx1 (q := 143) h rfl
  refine ⟨zq_k_u2 182 (fun z => .invokevirtual z) 240 h rfl (zq_o_182 _) (by decide +kernel), ?_⟩
  replace h := zq_nx3 (q := 146) h rfl
  refine ⟨zq_k_u1 54 (fun z => .istore z) 6 h rfl (zq_o_54 _) (by decide +kernel), ?_⟩
  replace h := zq_nx2 (q := 148) h rfl
  refine ⟨zq_k_n 42 h rfl (zq_o_42 _), ?_⟩
  replace h := zq_nx1 (q := 149) h rfl
  refine ⟨zq_k_u2 182 (fun z => .invokevirtual z) 281 h rfl (zq_o_182 _) (by decide +kernel), ?_⟩
  replace h := zq_nx3 (q := 152) h rfl
  refine ⟨zq_k_n 29 h rfl (zq_o_29 _), ?_⟩
  replace h := zq_nx1 (q := 153) h rfl
  refine ⟨zq_k_s2 154 (fun z => .ifCond .ne z) 8 h rfl (zq_o_154 _) (by decide +kernel), ?_⟩
  replace h := zq_nx3 (q := 156) h rfl
  refine ⟨zq_k_u1 21 (fun z => .iload z) 5 h rfl (zq_o_21 _) (by decide +kernel), ?_⟩
  replace h := zq_nx2 (q := 158) h rfl
  refine ⟨zq_k_s2 167 (fun z => .goto z) 5 h rfl (zq_o_167 _) (by decide +kernel), ?_⟩
  replace h := zq_nx3 (q := 161) h rfl
  refine ⟨zq_k_u1 21 (fun z => .iload z) 6 h rfl (zq_o_21 _) (by decide +kernel), ?_⟩
  replace h := zq_nx2 (q := 163) h rfl
  exact zq_k_n 172 h rfl (zq_o_172 _)
def f_M_wild_130 (rec54 : Nat → Int32 → Int32 → Int32 → Int32 → Int32 → mH → Option (Int32 × mH)) (b0 : Nat) (b2 : Int32) (b3 : Int32) (b4 : Int32) (b6 : Int32) (s0 : Int32) (s1 : Int32) (h : mH) : Option (Int32 × mH) :=
  bd2 (f_M_flag s1 h) fun x44 h42 =>
  rec54 b0 b2 b3 b4 (s0 + x44) (b6 + (1 : Int32)) h42
set_option maxRecDepth 20000 in
theorem t_M_wild_130 {sc : Nat × (Nat → Int32)} (rec54 : Nat → Int32 → Int32 → Int32 → Int32 → Int32 → mH → Option (Int32 × mH)) (hrec54 : ∀ (b0 : Nat) (b2 : Int32) (b3 : Int32) (b4 : Int32) (b5 : Int32) (b6 : Int32) (h : mH) (r : Int32) (h' : mH), rec54 b0 b2 b3 b4 b5 b6 h = some (r, h') → G sc y_M_wild prog_10_method_82_code 8 (some .int) 5 113 54 [(0, .ref b0), (2, .int b2), (3, .int b3), (4, .int b4), (5, .int b5), (6, .int b6)] [] h (some (.int r)) h') (b0 : Nat) (b2 : Int32) (b3 : Int32) (b4 : Int32) (b6 : Int32) (s0 : Int32) (s1 : Int32) (h : mH) (r : Int32) (h' : mH) (hf : f_M_wild_130 rec54 b0 b2 b3 b4 b6 s0 s1 h = some (r, h')) : G sc y_M_wild prog_10_method_82_code 8 (some .int) 5 113 130 [(0, .ref b0), (2, .int b2), (3, .int b3), (4, .int b4), (6, .int b6)] [.int s1, .int s0] h (some (.int r)) h' := by
  unfold f_M_wild_130 at hf
  obtain ⟨x44, h42, e43, hf⟩ := bd2_e hf
  refine g_callS (pc := 130) [.int s1] (site_of si_M_flag (by decide) (by decide)) wd_1180 wd_1181 dd_M_wild_88.2.2.2.2.2.2.2.2.2.2.2.2.2.2.2.2.2.2.2.2.2.2.1 (Nat.le_of_ble_eq_true rfl) (fun z => absurd z si_na_M_flag) (fun z => absurd z si_na_M_flag) (fun z => absurd z si_na_M_flag) (c_M_flag e43) rfl ?_
  refine g_st [.int x44, .int s0] rfl ?_
  refine g_iadd (pc := 133) dd_M_wild_88.2.2.2.2.2.2.2.2.2.2.2.2.2.2.2.2.2.2.2.2.2.2.2 ?_
  refine g_istore (pc := 134) [(5, .int (s0 + x44)), (0, .ref b0), (2, .int b2), (3, .int b3), (4, .int b4), (6, .int b6)] dd_M_wild_134.1 (Nat.le_of_ble_eq_true rfl) rfl ?_
  refine g_iinc (pc := 136) 5 (b6 + (1 : Int32)) [(6, .int (b6 + (1 : Int32))), (5, .int (s0 + x44)), (0, .ref b0), (2, .int b2), (3, .int b3), (4, .int b4)] dd_M_wild_134.2.1 rfl rfl (Nat.le_of_ble_eq_true rfl) rfl ?_
  refine g_goto (pc := 139) 54 dd_M_wild_134.2.2.1 (by decide) ?_
  refine g_lv [2, 3, 4, 5, 1, 0] rfl ?_
  exact hrec54 _ _ _ _ _ _ _ _ _  hf
def f_M_wild_54b (rec54 : Nat → Int32 → Int32 → Int32 → Int32 → Int32 → mH → Option (Int32 × mH)) (b0 : Nat) (b2 : Int32) (b3 : Int32) (b4 : Int32) (b5 : Int32) (b6 : Int32) (h : mH) : Option (Int32 × mH) :=
  if b2 ≤ b6 then
    bd1 (kC h b0 8) fun _ =>
    bd2 (f_M_fallsNow b0 h) fun x23 h21 =>
    bd1 (kC h21 b0 8) fun _ =>
    bd1 (f_M_returns b0 h21) fun h26 =>
    if b3 = 0 then
      some (b5, h26)
    else
      some (x23, h26)
  else
    bd1 (gI h b0 8 3) fun x29 =>
    if x29 = 0 then none else
    bd1 (gI h b0 8 2) fun x32 =>
    if x32 = 0 then none else
    bd1 (kC h b0 8) fun _ =>
    bd2 (f_M_breaks b0 (((((b4 * (1103515245 : Int32)) + (12345 : Int32)) >>> ((16 : Int32) &&& 31)) &&& (32767 : Int32)) - ((((b4 * (1103515245 : Int32)) + (12345 : Int32)) >>> ((16 : Int32) &&& 31)) &&& (32767 : Int32)) / x29 * x29) (((((((b4 * (1103515245 : Int32)) + (12345 : Int32)) * (1103515245 : Int32)) + (12345 : Int32)) >>> ((16 : Int32) &&& 31)) &&& (32767 : Int32)) - ((((((b4 * (1103515245 : Int32)) + (12345 : Int32)) * (1103515245 : Int32)) + (12345 : Int32)) >>> ((16 : Int32) &&& 31)) &&& (32767 : Int32)) / x32 * x32) h) fun x39 h37 =>
    if x39 < 0 then
      f_M_wild_130 rec54 b0 b2 b3 ((((b4 * (1103515245 : Int32)) + (12345 : Int32)) * (1103515245 : Int32)) + (12345 : Int32)) b6 b5 (0 : Int32) h37
    else
      f_M_wild_130 rec54 b0 b2 b3 ((((b4 * (1103515245 : Int32)) + (12345 : Int32)) * (1103515245 : Int32)) + (12345 : Int32)) b6 b5 (1 : Int32) h37
set_option maxRecDepth 20000 in
theorem t_M_wild_54b {sc : Nat × (Nat → Int32)} (rec54 : Nat → Int32 → Int32 → Int32 → Int32 → Int32 → mH → Option (Int32 × mH)) (hrec54 : ∀ (b0 : Nat) (b2 : Int32) (b3 : Int32) (b4 : Int32) (b5 : Int32) (b6 : Int32) (h : mH) (r : Int32) (h' : mH), rec54 b0 b2 b3 b4 b5 b6 h = some (r, h') → G sc y_M_wild prog_10_method_82_code 8 (some .int) 5 113 54 [(0, .ref b0), (2, .int b2), (3, .int b3), (4, .int b4), (5, .int b5), (6, .int b6)] [] h (some (.int r)) h') (b0 : Nat) (b2 : Int32) (b3 : Int32) (b4 : Int32) (b5 : Int32) (b6 : Int32) (h : mH) (r : Int32) (h' : mH) (hf : f_M_wild_54b rec54 b0 b2 b3 b4 b5 b6 h = some (r, h')) : G sc y_M_wild prog_10_method_82_code 8 (some .int) 5 113 54 [(0, .ref b0), (2, .int b2), (3, .int b3), (4, .int b4), (5, .int b5), (6, .int b6)] [] h (some (.int r)) h' := by
  unfold f_M_wild_54b at hf
  refine g_iload (pc := 54) 5 dd_M_wild_45.2.2.2.2.2.2.1 rfl ?_
  refine g_iload_n (pc := 56) 1 dd_M_wild_45.2.2.2.2.2.2.2.1 rfl rfl ?_
  refine g_icmpge (pc := 57) 142 dd_M_wild_45.2.2.2.2.2.2.2.2.1 (by decide) (fun c41 => ?_) (fun c41 => ?_)
  · replace hf := (if_pos c41).symm.trans hf
    refine g_aload_n (pc := 142) 0 dd_M_wild_134.2.2.2.1 rfl rfl ?_
    obtain ⟨u20, e19, hf⟩ := bd1_e hf
    obtain ⟨x23, h21, e22, hf⟩ := bd2_e hf
    refine g_callV (pc := 143) (ci := 8) [] (site_of si_M_fallsNow (by decide) (by decide)) wd_1241 wd_1243 wp_56 dd_M_wild_134.2.2.2.2.1 rfl e19 (Nat.le_of_ble_eq_true rfl) (fun z => absurd z si_na_M_fallsNow) (fun z => absurd z si_na_M_fallsNow) (fun z => absurd z si_na_M_fallsNow) (c_M_fallsNow e22) rfl ?_
    refine g_st [.int x23] rfl ?_
    refine g_istore (pc := 146) [(6, .int x23), (0, .ref b0), (2, .int b2), (3, .int b3), (4, .int b4), (5, .int b5)] dd_M_wild_134.2.2.2.2.2.1 (Nat.le_of_ble_eq_true rfl) rfl ?_
    refine g_aload_n (pc := 148) 1 dd_M_wild_134.2.2.2.2.2.2.1 rfl rfl ?_
    obtain ⟨u25, e24, hf⟩ := bd1_e hf
    obtain ⟨h26, e27, hf⟩ := bd1_e hf
    refine g_callV (pc := 149) (ci := 8) [] (site_of si_M_returns (by decide) (by decide)) wd_1315 wd_1317 wp_66 dd_M_wild_134.2.2.2.2.2.2.2.1 rfl e24 (Nat.le_of_ble_eq_true rfl) (fun z => absurd z si_na_M_returns) (fun z => absurd z si_na_M_returns) (fun z => absurd z si_na_M_returns) (c_M_returns e27) rfl ?_
    refine g_st [] rfl ?_
    refine g_iload_n (pc := 152) 3 dd_M_wild_134.2.2.2.2.2.2.2.2.1 rfl rfl ?_
    refine g_ifne (pc := 153) 161 dd_M_wild_134.2.2.2.2.2.2.2.2.2.1 (by decide) (fun c28 => ?_) (fun c28 => ?_)
    · replace hf := (if_neg c28).symm.trans hf
      refine g_iload (pc := 161) 0 dd_M_wild_134.2.2.2.2.2.2.2.2.2.2.2.2.1 rfl ?_
      obtain ⟨rfl, rfl⟩ := ret2 hf
      exact g_iret (pc := 163) rfl dd_M_wild_134.2.2.2.2.2.2.2.2.2.2.2.2.2
    · replace hf := (if_pos c28).symm.trans hf
      refine g_iload (pc := 156) 5 dd_M_wild_134.2.2.2.2.2.2.2.2.2.2.1 rfl ?_
      refine g_goto (pc := 158) 163 dd_M_wild_134.2.2.2.2.2.2.2.2.2.2.2.1 (by decide) ?_
      obtain ⟨rfl, rfl⟩ := ret2 hf
      exact g_iret (pc := 163) rfl dd_M_wild_134.2.2.2.2.2.2.2.2.2.2.2.2.2
  · replace hf := (if_neg c41).symm.trans hf
    refine g_iload (pc := 60) 3 dd_M_wild_45.2.2.2.2.2.2.2.2.2.1 rfl ?_
    refine g_ldcw (pc := 62) (1103515245 : Int32) dd_M_wild_45.2.2.2.2.2.2.2.2.2.2.1 wd_1378 ?_
    refine g_imul (pc := 65) dd_M_wild_45.2.2.2.2.2.2.2.2.2.2.2.1 ?_
    refine g_sipush (pc := 66) (12345 : Int32) dd_M_wild_45.2.2.2.2.2.2.2.2.2.2.2.2.1 (by decide) ?_
    refine g_iadd (pc := 69) dd_M_wild_45.2.2.2.2.2.2.2.2.2.2.2.2.2.1 ?_
    refine g_istore (pc := 70) [(4, .int ((b4 * (1103515245 : Int32)) + (12345 : Int32))), (0, .ref b0), (2, .int b2), (3, .int b3), (5, .int b5), (6, .int b6)] dd_M_wild_45.2.2.2.2.2.2.2.2.2.2.2.2.2.2.1 (Nat.le_of_ble_eq_true rfl) rfl ?_
    refine g_iload (pc := 72) 0 dd_M_wild_45.2.2.2.2.2.2.2.2.2.2.2.2.2.2.2.1 rfl ?_
    refine g_bipush (pc := 74) (16 : Int32) dd_M_wild_45.2.2.2.2.2.2.2.2.2.2.2.2.2.2.2.2.1 (by decide) ?_
    refine g_ishr (pc := 76) dd_M_wild_45.2.2.2.2.2.2.2.2.2.2.2.2.2.2.2.2.2.1 ?_
    refine g_sipush (pc := 77) (32767 : Int32) dd_M_wild_45.2.2.2.2.2.2.2.2.2.2.2.2.2.2.2.2.2.2.1 (by decide) ?_
    refine g_iand (pc := 80) dd_M_wild_45.2.2.2.2.2.2.2.2.2.2.2.2.2.2.2.2.2.2.2.1 ?_
    refine g_aload_n (pc := 81) 1 dd_M_wild_45.2.2.2.2.2.2.2.2.2.2.2.2.2.2.2.2.2.2.2.2.1 rfl rfl ?_
    obtain ⟨x29, e30, hf⟩ := bd1_e hf
    refine g_get (pc := 82) (ci := 8) (kk := 3) dd_M_wild_45.2.2.2.2.2.2.2.2.2.2.2.2.2.2.2.2.2.2.2.2.2.1 rfl in_M (by decide) wd_941 (gI_spec e30) ?_
    have c31 : ¬ x29 = 0 := fun z => absurd ((if_pos z).symm.trans hf) (by simp)
    replace hf := (if_neg c31).symm.trans hf
    refine g_irem (pc := 85) dd_M_wild_45.2.2.2.2.2.2.2.2.2.2.2.2.2.2.2.2.2.2.2.2.2.2.1 c31 ?_
    refine g_istore (pc := 86) [(7, .int (((((b4 * (1103515245 : Int32)) + (12345 : Int32)) >>> ((16 : Int32) &&& 31)) &&& (32767 : Int32)) - ((((b4 * (1103515245 : Int32)) + (12345 : Int32)) >>> ((16 : Int32) &&& 31)) &&& (32767 : Int32)) / x29 * x29)), (4, .int ((b4 * (1103515245 : Int32)) + (12345 : Int32))), (0, .ref b0), (2, .int b2), (3, .int b3), (5, .int b5), (6, .int b6)] dd_M_wild_45.2.2.2.2.2.2.2.2.2.2.2.2.2.2.2.2.2.2.2.2.2.2.2 (Nat.le_of_ble_eq_true rfl) rfl ?_
    refine g_iload (pc := 88) 1 dd_M_wild_88.1 rfl ?_
    refine g_ldcw (pc := 90) (1103515245 : Int32) dd_M_wild_88.2.1 wd_1378 ?_
    refine g_imul (pc := 93) dd_M_wild_88.2.2.1 ?_
    refine g_sipush (pc := 94) (12345 : Int32) dd_M_wild_88.2.2.2.1 (by decide) ?_
    refine g_iadd (pc := 97) dd_M_wild_88.2.2.2.2.1 ?_
    refine g_istore (pc := 98) [(4, .int ((((b4 * (1103515245 : Int32)) + (12345 : Int32)) * (1103515245 : Int32)) + (12345 : Int32))), (7, .int (((((b4 * (1103515245 : Int32)) + (12345 : Int32)) >>> ((16 : Int32) &&& 31)) &&& (32767 : Int32)) - ((((b4 * (1103515245 : Int32)) + (12345 : Int32)) >>> ((16 : Int32) &&& 31)) &&& (32767 : Int32)) / x29 * x29)), (0, .ref b0), (2, .int b2), (3, .int b3), (5, .int b5), (6, .int b6)] dd_M_wild_88.2.2.2.2.2.1 (Nat.le_of_ble_eq_true rfl) rfl ?_
    refine g_iload (pc := 100) 5 dd_M_wild_88.2.2.2.2.2.2.1 rfl ?_
    refine g_aload_n (pc := 102) 2 dd_M_wild_88.2.2.2.2.2.2.2.1 rfl rfl ?_
    refine g_iload (pc := 103) 1 dd_M_wild_88.2.2.2.2.2.2.2.2.1 rfl ?_
    refine g_iload (pc := 105) 0 dd_M_wild_88.2.2.2.2.2.2.2.2.2.1 rfl ?_
    refine g_bipush (pc := 107) (16 : Int32) dd_M_wild_88.2.2.2.2.2.2.2.2.2.2.1 (by decide) ?_
    refine g_ishr (pc := 109) dd_M_wild_88.2.2.2.2.2.2.2.2.2.2.2.1 ?_
    refine g_sipush (pc := 110) (32767 : Int32) dd_M_wild_88.2.2.2.2.2.2.2.2.2.2.2.2.1 (by decide) ?_
    refine g_iand (pc := 113) dd_M_wild_88.2.2.2.2.2.2.2.2.2.2.2.2.2.1 ?_
    refine g_aload_n (pc := 114) 2 dd_M_wild_88.2.2.2.2.2.2.2.2.2.2.2.2.2.2.1 rfl rfl ?_
    obtain ⟨x32, e33, hf⟩ := bd1_e hf
    refine g_get (pc := 115) (ci := 8) (kk := 2) dd_M_wild_88.2.2.2.2.2.2.2.2.2.2.2.2.2.2.2.1 rfl in_M (by decide) wd_940 (gI_spec e33) ?_
    have c34 : ¬ x32 = 0 := fun z => absurd ((if_pos z).symm.trans hf) (by simp)
    replace hf := (if_neg c34).symm.trans hf
    refine g_irem (pc := 118) dd_M_wild_88.2.2.2.2.2.2.2.2.2.2.2.2.2.2.2.2.1 c34 ?_
    obtain ⟨u36, e35, hf⟩ := bd1_e hf
    obtain ⟨x39, h37, e38, hf⟩ := bd2_e hf
    refine g_callV (pc := 119) (ci := 8) [.int (((((b4 * (1103515245 : Int32)) + (12345 : Int32)) >>> ((16 : Int32) &&& 31)) &&& (32767 : Int32)) - ((((b4 * (1103515245 : Int32)) + (12345 : Int32)) >>> ((16 : Int32) &&& 31)) &&& (32767 : Int32)) / x29 * x29), .int (((((((b4 * (1103515245 : Int32)) + (12345 : Int32)) * (1103515245 : Int32)) + (12345 : Int32)) >>> ((16 : Int32) &&& 31)) &&& (32767 : Int32)) - ((((((b4 * (1103515245 : Int32)) + (12345 : Int32)) * (1103515245 : Int32)) + (12345 : Int32)) >>> ((16 : Int32) &&& 31)) &&& (32767 : Int32)) / x32 * x32)] (site_of si_M_breaks (by decide) (by decide)) wd_1379 wd_1234 wd_1235 dd_M_wild_88.2.2.2.2.2.2.2.2.2.2.2.2.2.2.2.2.2.1 rfl e35 (Nat.le_of_ble_eq_true rfl) (fun z => absurd z si_na_M_breaks) (fun z => absurd z si_na_M_breaks) (fun z => absurd z si_na_M_breaks) (c_M_breaks e38) rfl ?_
    refine g_st [.int x39, .int b5] rfl ?_
    refine g_iflt (pc := 122) 129 dd_M_wild_88.2.2.2.2.2.2.2.2.2.2.2.2.2.2.2.2.2.2.1 (by decide) (fun c40 => ?_) (fun c40 => ?_)
    · replace hf := (if_pos c40).symm.trans hf
      refine g_iconst (pc := 129) (0 : Int32) dd_M_wild_88.2.2.2.2.2.2.2.2.2.2.2.2.2.2.2.2.2.2.2.2.2.1 (by decide) ?_
      refine g_lv [2, 3, 4, 0, 6] rfl ?_
      exact t_M_wild_130 rec54 hrec54 _ _ _ _ _ _ _ _ _ _  hf
    · replace hf := (if_neg c40).symm.trans hf
      refine g_iconst (pc := 125) (1 : Int32) dd_M_wild_88.2.2.2.2.2.2.2.2.2.2.2.2.2.2.2.2.2.2.2.1 (by decide) ?_
      refine g_goto (pc := 126) 130 dd_M_wild_88.2.2.2.2.2.2.2.2.2.2.2.2.2.2.2.2.2.2.2.2.1 (by decide) ?_
      refine g_lv [2, 3, 4, 0, 6] rfl ?_
      exact t_M_wild_130 rec54 hrec54 _ _ _ _ _ _ _ _ _ _  hf
def f_M_wild_54  : Nat → Nat → Int32 → Int32 → Int32 → Int32 → Int32 → mH → Option (Int32 × mH)
  | 0 => fun _ _ _ _ _ _ _ => none
  | n + 1 => f_M_wild_54b  (f_M_wild_54  n)
theorem t_M_wild_54 {sc : Nat × (Nat → Int32)}  : ∀ (n : Nat) (b0 : Nat) (b2 : Int32) (b3 : Int32) (b4 : Int32) (b5 : Int32) (b6 : Int32) (h : mH) (r : Int32) (h' : mH) (hf : f_M_wild_54  n b0 b2 b3 b4 b5 b6 h = some (r, h')), G sc y_M_wild prog_10_method_82_code 8 (some .int) 5 113 54 [(0, .ref b0), (2, .int b2), (3, .int b3), (4, .int b4), (5, .int b5), (6, .int b6)] [] h (some (.int r)) h'
  | 0, _, _, _, _, _, _, _, _, _, hf => by cases hf
  | n + 1, _, _, _, _, _, _, _, _, _, hf => t_M_wild_54b  (f_M_wild_54  n) (t_M_wild_54  n) _ _ _ _ _ _ _ _ _ hf
def f_M_wild_38   (h : mH) : Option (Int32 × mH) :=
  some (((-2) : Int32), h)
set_option maxRecDepth 20000 in
theorem t_M_wild_38 {sc : Nat × (Nat → Int32)}   (h : mH) (r : Int32) (h' : mH) (hf : f_M_wild_38   h = some (r, h')) : G sc y_M_wild prog_10_method_82_code 8 (some .int) 5 113 38 [] [] h (some (.int r)) h' := by
  unfold f_M_wild_38 at hf
  refine g_bipush (pc := 38) ((-2) : Int32) dd_M_wild_0.2.2.2.2.2.2.2.2.2.2.2.2.2.2.2.2.2.2.2.2.1 (by decide) ?_
  obtain ⟨rfl, rfl⟩ := ret2 hf
  exact g_iret (pc := 40) rfl dd_M_wild_0.2.2.2.2.2.2.2.2.2.2.2.2.2.2.2.2.2.2.2.2.2.1
def f_M_wild_22   (h : mH) : Option (Int32 × mH) :=
  some (((-1) : Int32), h)
set_option maxRecDepth 20000 in
theorem t_M_wild_22 {sc : Nat × (Nat → Int32)}   (h : mH) (r : Int32) (h' : mH) (hf : f_M_wild_22   h = some (r, h')) : G sc y_M_wild prog_10_method_82_code 8 (some .int) 5 113 22 [] [] h (some (.int r)) h' := by
  unfold f_M_wild_22 at hf
  refine g_iconst (pc := 22) ((-1) : Int32) dd_M_wild_0.2.2.2.2.2.2.2.2.2.2.2.2.1 (by decide) ?_
  obtain ⟨rfl, rfl⟩ := ret2 hf
  exact g_iret (pc := 23) rfl dd_M_wild_0.2.2.2.2.2.2.2.2.2.2.2.2.2.1
def f_M_wild_0  (a0 : Nat) (a1 : Int32) (a2 : Int32) (a3 : Int32) (h : mH) : Option (Int32 × mH) :=
  bd2 (f_M_in a2.toInt64 (1 : Int64) (60 : Int64) h) fun x3 h1 =>
  if x3 = 0 then
    f_M_wild_22  h1
  else
    bd2 (f_M_in a3.toInt64 (0 : Int64) (1 : Int64) h1) fun x6 h4 =>
    if x6 = 0 then
      f_M_wild_22  h4
    else
      bd1 (gI h4 a0 8 3) fun x7 =>
      if x7 = 0 then
        f_M_wild_38  h4
      else
        bd1 (gI h4 a0 8 2) fun x9 =>
        if x9 = 0 then
          f_M_wild_38  h4
        else
          bd1 (kC h4 a0 8) fun _ =>
          bd1 (f_M_saves a0 h4) fun h13 =>
          f_M_wild_54  FU a0 a2 a3 a1 (0 : Int32) (0 : Int32) h13
set_option maxRecDepth 20000 in
theorem t_M_wild_0 {sc : Nat × (Nat → Int32)}  (a0 : Nat) (a1 : Int32) (a2 : Int32) (a3 : Int32) (h : mH) (r : Int32) (h' : mH) (hf : f_M_wild_0  a0 a1 a2 a3 h = some (r, h')) : G sc y_M_wild prog_10_method_82_code 8 (some .int) 5 113 0 [(0, .ref a0), (1, .int a1), (2, .int a2), (3, .int a3)] [] h (some (.int r)) h' := by
  unfold f_M_wild_0 at hf
  refine g_iload_n (pc := 0) 2 dd_M_wild_0.1 rfl rfl ?_
  refine g_i2l (pc := 1) dd_M_wild_0.2.1 ?_
  refine g_lconst (pc := 2) (1 : Int64) dd_M_wild_0.2.2.1 (by decide) ?_
  refine g_ldc2 (pc := 3) (60 : Int64) dd_M_wild_0.2.2.2.1 wd_1377 ?_
  obtain ⟨x3, h1, e2, hf⟩ := bd2_e hf
  refine g_callS (pc := 6) [.long a2.toInt64, .long (1 : Int64), .long (60 : Int64)] (site_of si_M_in (by decide) (by decide)) wd_1061 wd_1062 dd_M_wild_0.2.2.2.2.1 (Nat.le_of_ble_eq_true rfl) (fun z => absurd z si_na_M_in) (fun z => absurd z si_na_M_in) (fun z => absurd z si_na_M_in) (c_M_in e2) rfl ?_
  refine g_st [.int x3] rfl ?_
  refine g_ifeq (pc := 9) 22 dd_M_wild_0.2.2.2.2.2.1 (by decide) (fun c18 => ?_) (fun c18 => ?_)
  · replace hf := (if_pos c18).symm.trans hf
    refine g_lv [] rfl ?_
    exact t_M_wild_22  _ _ _  hf
  · replace hf := (if_neg c18).symm.trans hf
    refine g_iload_n (pc := 12) 3 dd_M_wild_0.2.2.2.2.2.2.1 rfl rfl ?_
    refine g_i2l (pc := 13) dd_M_wild_0.2.2.2.2.2.2.2.1 ?_
    refine g_lconst (pc := 14) (0 : Int64) dd_M_wild_0.2.2.2.2.2.2.2.2.1 (by decide) ?_
    refine g_lconst (pc := 15) (1 : Int64) dd_M_wild_0.2.2.2.2.2.2.2.2.2.1 (by decide) ?_
    obtain ⟨x6, h4, e5, hf⟩ := bd2_e hf
    refine g_callS (pc := 16) [.long a3.toInt64, .long (0 : Int64), .long (1 : Int64)] (site_of si_M_in (by decide) (by decide)) wd_1061 wd_1062 dd_M_wild_0.2.2.2.2.2.2.2.2.2.2.1 (Nat.le_of_ble_eq_true rfl) (fun z => absurd z si_na_M_in) (fun z => absurd z si_na_M_in) (fun z => absurd z si_na_M_in) (c_M_in e5) rfl ?_
    refine g_st [.int x6] rfl ?_
    refine g_ifne (pc := 19) 24 dd_M_wild_0.2.2.2.2.2.2.2.2.2.2.2.1 (by decide) (fun c17 => ?_) (fun c17 => ?_)
    · replace hf := (if_neg c17).symm.trans hf
      refine g_aload_n (pc := 24) 0 dd_M_wild_0.2.2.2.2.2.2.2.2.2.2.2.2.2.2.1 rfl rfl ?_
      obtain ⟨x7, e8, hf⟩ := bd1_e hf
      refine g_get (pc := 25) (ci := 8) (kk := 3) dd_M_wild_0.2.2.2.2.2.2.2.2.2.2.2.2.2.2.2.1 rfl in_M (by decide) wd_941 (gI_spec e8) ?_
      refine g_ifeq (pc := 28) 38 dd_M_wild_0.2.2.2.2.2.2.2.2.2.2.2.2.2.2.2.2.1 (by decide) (fun c16 => ?_) (fun c16 => ?_)
      · replace hf := (if_pos c16).symm.trans hf
        refine g_lv [] rfl ?_
        exact t_M_wild_38  _ _ _  hf
      · replace hf := (if_neg c16).symm.trans hf
        refine g_aload_n (pc := 31) 0 dd_M_wild_0.2.2.2.2.2.2.2.2.2.2.2.2.2.2.2.2.2.1 rfl rfl ?_
        obtain ⟨x9, e10, hf⟩ := bd1_e hf
        refine g_get (pc := 32) (ci := 8) (kk := 2) dd_M_wild_0.2.2.2.2.2.2.2.2.2.2.2.2.2.2.2.2.2.2.1 rfl in_M (by decide) wd_940 (gI_spec e10) ?_
        refine g_ifne (pc := 35) 41 dd_M_wild_0.2.2.2.2.2.2.2.2.2.2.2.2.2.2.2.2.2.2.2.1 (by decide) (fun c15 => ?_) (fun c15 => ?_)
        · replace hf := (if_neg c15).symm.trans hf
          refine g_aload_n (pc := 41) 0 dd_M_wild_0.2.2.2.2.2.2.2.2.2.2.2.2.2.2.2.2.2.2.2.2.2.2.1 rfl rfl ?_
          obtain ⟨u12, e11, hf⟩ := bd1_e hf
          obtain ⟨h13, e14, hf⟩ := bd1_e hf
          refine g_callV (pc := 42) (ci := 8) [] (site_of si_M_saves (by decide) (by decide)) wd_1307 wd_1309 wp_64 dd_M_wild_0.2.2.2.2.2.2.2.2.2.2.2.2.2.2.2.2.2.2.2.2.2.2.2 rfl e11 (Nat.le_of_ble_eq_true rfl) (fun z => absurd z si_na_M_saves) (fun z => absurd z si_na_M_saves) (fun z => absurd z si_na_M_saves) (c_M_saves e14) rfl ?_
          refine g_st [] rfl ?_
          refine g_iload_n (pc := 45) 1 dd_M_wild_45.1 rfl rfl ?_
          refine g_istore (pc := 46) [(4, .int a1), (0, .ref a0), (1, .int a1), (2, .int a2), (3, .int a3)] dd_M_wild_45.2.1 (Nat.le_of_ble_eq_true rfl) rfl ?_
          refine g_iconst (pc := 48) (0 : Int32) dd_M_wild_45.2.2.1 (by decide) ?_
          refine g_istore (pc := 49) [(5, .int (0 : Int32)), (4, .int a1), (0, .ref a0), (1, .int a1), (2, .int a2), (3, .int a3)] dd_M_wild_45.2.2.2.1 (Nat.le_of_ble_eq_true rfl) rfl ?_
          refine g_iconst (pc := 51) (0 : Int32) dd_M_wild_45.2.2.2.2.1 (by decide) ?_
          refine g_istore (pc := 52) [(6, .int (0 : Int32)), (5, .int (0 : Int32)), (4, .int a1), (0, .ref a0), (1, .int a1), (2, .int a2), (3, .int a3)] dd_M_wild_45.2.2.2.2.2.1 (Nat.le_of_ble_eq_true rfl) rfl ?_
          refine g_lv [3, 5, 6, 2, 1, 0] rfl ?_
          exact t_M_wild_54  FU _ _ _ _ _ _ _ _ _  hf
        · replace hf := (if_pos c15).symm.trans hf
          refine g_lv [] rfl ?_
          exact t_M_wild_38  _ _ _  hf
    · replace hf := (if_pos c17).symm.trans hf
      refine g_lv [] rfl ?_
      exact t_M_wild_22  _ _ _  hf
def f_M_wild (a0 : Nat) (a1 : Int32) (a2 : Int32) (a3 : Int32) (h : mH) : Option (Int32 × mH) := f_M_wild_0 a0 a1 a2 a3 h
theorem c_M_wild {sc : Nat × (Nat → Int32)} {a0 : Nat} {a1 : Int32} {a2 : Int32} {a3 : Int32} {h : mH} {r : Int32} {h' : mH} (hf : f_M_wild a0 a1 a2 a3 h = some (r, h')) : MM sc y_M_wild prog_10_method_82_code 8 (some .int) 5 113 [.ref a0, .int a1, .int a2, .int a3] h (some (.int r)) h' :=
  mm_of_G si_pn_M (Nat.le_of_ble_eq_true rfl) (t_M_wild_0 _ _ _ _ _ _ _ hf)
end
/-! 24.model -/
section
/-! M copies (II)V -/
set_option maxRecDepth 100000 in
theorem dd_M_copies_0 : (decode prog_10_method_83_code 0 = .ok (.iconst 0, 1)) ∧ (decode prog_10_method_83_code 1 = .ok (.istore_n 3, 1)) ∧ (decode prog_10_method_83_code 2 = .ok (.iload_n 3, 1)) ∧ (decode prog_10_method_83_code 3 = .ok (.bipush 66, 2)) ∧ (decode prog_10_method_83_code 5 = .ok (.if_icmp .ge 25, 3)) ∧ (decode prog_10_method_83_code 8 = .ok (.aload_n 0, 1)) ∧ (decode prog_10_method_83_code 9 = .ok (.getfield 7, 3)) ∧ (decode prog_10_method_83_code 12 = .ok (.iload_n 1, 1)) ∧ (decode prog_10_method_83_code 13 = .ok (.iload_n 3, 1)) ∧ (decode prog_10_method_83_code 14 = .ok (.iadd, 1)) ∧ (decode prog_10_method_83_code 15 = .ok (.aload_n 0, 1)) ∧ (decode prog_10_method_83_code 16 = .ok (.getfield 7, 3)) ∧ (decode prog_10_method_83_code 19 = .ok (.iload_n 2, 1)) ∧ (decode prog_10_method_83_code 20 = .ok (.iload_n 3, 1)) ∧ (decode prog_10_method_83_code 21 = .ok (.iadd, 1)) ∧ (decode prog_10_method_83_code 22 = .ok (.iaload, 1)) ∧ (decode prog_10_method_83_code 23 = .ok (.iastore, 1)) ∧ (decode prog_10_method_83_code 24 = .ok (.iinc 3 1, 3)) ∧ (decode prog_10_method_83_code 27 = .ok (.goto (-25), 3)) ∧ (decode prog_10_method_83_code 30 = .ok (.return_, 1)) := by
  have h : List.drop 0 prog_10_method_83_code.data.toList = 0x03 :: _ := rfl
  refine ⟨zq_k_n 3 h rfl (zq_o_3 _), ?_⟩
  replace h := zq_nx1 (q := 1) h rfl
  refine ⟨zq_k_n 62 h rfl (zq_o_62 _), ?_⟩
  replace h := zq_nx1 (q := 2) h rfl
  refine ⟨zq_k_n 29 h rfl (zq_o_29 _), ?_⟩
  replace h := zq_nx1 (q := 3) h rfl
  refine ⟨zq_k_s1 16 (fun z => .bipush z) 66 h rfl (zq_o_16 _) (by decide +kernel), ?_⟩
  replace h := zq_nx2 (q := 5) h rfl
  refine ⟨zq_k_s2 162 (fun z => .if_icmp .ge z) 25 h rfl (zq_o_162 _) (by decide +kernel), ?_⟩
  replace h := zq_nx3 (q := 8) h rfl
  refine ⟨zq_k_n 42 h rfl (zq_o_42 _), ?_⟩
  replace h := zq_nx1 (q := 9) h rfl
  refine ⟨zq_k_u2 180 (fun z => .getfield z) 7 h rfl (zq_o_180 _) (by decide +kernel), ?_⟩
  replace h := zq_nx3 (q := 12) h rfl
  refine ⟨zq_k_n 27 h rfl (zq_o_27 _), ?_⟩
  replace h := zq_nx1 (q := 13) h rfl
  refine ⟨zq_k_n 29 h rfl (zq_o_29 _), ?_⟩
  replace h := zq_nx1 (q := 14) h rfl
  refine ⟨zq_k_n 96 h rfl (zq_o_96 _), ?_⟩
  replace h := zq_nx1 (q := 15) h rfl
  refine ⟨zq_k_n 42 h rfl (zq_o_42 _), ?_⟩
  replace h := zq_nx1 (q := 16) h rfl
  refine ⟨zq_k_u2 180 (fun z => .getfield z) 7 h rfl (zq_o_180 _) (by decide +kernel), ?_⟩
  replace h := zq_nx3 (q := 19) h rfl
  refine ⟨zq_k_n 28 h rfl (zq_o_28 _), ?_⟩
  replace h := zq_nx1 (q := 20) h rfl
  refine ⟨zq_k_n 29 h rfl (zq_o_29 _), ?_⟩
  replace h := zq_nx1 (q := 21) h rfl
  refine ⟨zq_k_n 96 h rfl (zq_o_96 _), ?_⟩
  replace h := zq_nx1 (q := 22) h rfl
  refine ⟨zq_k_n 46 h rfl (zq_o_46 _), ?_⟩
  replace h := zq_nx1 (q := 23) h rfl
  refine ⟨zq_k_n 79 h rfl (zq_o_79 _), ?_⟩
  replace h := zq_nx1 (q := 24) h rfl
  refine ⟨zq_k_iinc 3 1 h rfl (zq_o_132 _) (by decide +kernel) (by decide +kernel), ?_⟩
  replace h := zq_nx3 (q := 27) h rfl
  refine ⟨zq_k_s2 167 (fun z => .goto z) (-25) h rfl (zq_o_167 _) (by decide +kernel), ?_⟩
  replace h := zq_nx3 (q := 30) h rfl
  exact zq_k_n 177 h rfl (zq_o_177 _)
def f_M_copies_2b (rec2 : Nat → Int32 → Int32 → Int32 → mH → Option mH) (b0 : Nat) (b1 : Int32) (b2 : Int32) (b3 : Int32) (h : mH) : Option mH :=
  if (66 : Int32) ≤ b3 then
    some h
  else
    bd1 (gR h b0 8 0) fun x1 =>
    bd1 (gR h b0 8 0) fun x3 =>
    bd1 (aI h 0 x3 (b2 + b3)) fun x5 =>
    bd1 (sI h 0 x1 (b1 + b3) x5) fun h7 =>
    rec2 b0 b1 b2 (b3 + (1 : Int32)) h7
set_option maxRecDepth 20000 in
theorem t_M_copies_2b {sc : Nat × (Nat → Int32)} (rec2 : Nat → Int32 → Int32 → Int32 → mH → Option mH) (hrec2 : ∀ (b0 : Nat) (b1 : Int32) (b2 : Int32) (b3 : Int32) (h : mH) (h' : mH), rec2 b0 b1 b2 b3 h = some h' → G sc y_M_copies prog_10_method_83_code 4 none 0 0 2 [(0, .ref b0), (1, .int b1), (2, .int b2), (3, .int b3)] [] h none h') (b0 : Nat) (b1 : Int32) (b2 : Int32) (b3 : Int32) (h : mH) (h' : mH) (hf : f_M_copies_2b rec2 b0 b1 b2 b3 h = some h') : G sc y_M_copies prog_10_method_83_code 4 none 0 0 2 [(0, .ref b0), (1, .int b1), (2, .int b2), (3, .int b3)] [] h none h' := by
  unfold f_M_copies_2b at hf
  refine g_iload_n (pc := 2) 3 dd_M_copies_0.2.2.1 rfl rfl ?_
  refine g_bipush (pc := 3) (66 : Int32) dd_M_copies_0.2.2.2.1 (by decide) ?_
  refine g_icmpge (pc := 5) 30 dd_M_copies_0.2.2.2.2.1 (by decide) (fun c9 => ?_) (fun c9 => ?_)
  · replace hf := (if_pos c9).symm.trans hf
    obtain rfl := ret1 hf
    exact g_vret (pc := 30) rfl dd_M_copies_0.2.2.2.2.2.2.2.2.2.2.2.2.2.2.2.2.2.2.2
  · replace hf := (if_neg c9).symm.trans hf
    refine g_aload_n (pc := 8) 0 dd_M_copies_0.2.2.2.2.2.1 rfl rfl ?_
    obtain ⟨x1, e2, hf⟩ := bd1_e hf
    refine g_get (pc := 9) (ci := 8) (kk := 0) dd_M_copies_0.2.2.2.2.2.2.1 rfl in_M (by decide) wd_938 (gR_spec e2) ?_
    refine g_iload_n (pc := 12) 1 dd_M_copies_0.2.2.2.2.2.2.2.1 rfl rfl ?_
    refine g_iload_n (pc := 13) 3 dd_M_copies_0.2.2.2.2.2.2.2.2.1 rfl rfl ?_
    refine g_iadd (pc := 14) dd_M_copies_0.2.2.2.2.2.2.2.2.2.1 ?_
    refine g_aload_n (pc := 15) 0 dd_M_copies_0.2.2.2.2.2.2.2.2.2.2.1 rfl rfl ?_
    obtain ⟨x3, e4, hf⟩ := bd1_e hf
    refine g_get (pc := 16) (ci := 8) (kk := 0) dd_M_copies_0.2.2.2.2.2.2.2.2.2.2.2.1 rfl in_M (by decide) wd_938 (gR_spec e4) ?_
    refine g_iload_n (pc := 19) 2 dd_M_copies_0.2.2.2.2.2.2.2.2.2.2.2.2.1 rfl rfl ?_
    refine g_iload_n (pc := 20) 3 dd_M_copies_0.2.2.2.2.2.2.2.2.2.2.2.2.2.1 rfl rfl ?_
    refine g_iadd (pc := 21) dd_M_copies_0.2.2.2.2.2.2.2.2.2.2.2.2.2.2.1 ?_
    obtain ⟨x5, e6, hf⟩ := bd1_e hf
    refine g_iald (pc := 22) dd_M_copies_0.2.2.2.2.2.2.2.2.2.2.2.2.2.2.2.1 e6 ?_
    obtain ⟨h7, e8, hf⟩ := bd1_e hf
    refine g_iast (pc := 23) dd_M_copies_0.2.2.2.2.2.2.2.2.2.2.2.2.2.2.2.2.1 e8 ?_
    refine g_iinc (pc := 24) 3 (b3 + (1 : Int32)) [(3, .int (b3 + (1 : Int32))), (0, .ref b0), (1, .int b1), (2, .int b2)] dd_M_copies_0.2.2.2.2.2.2.2.2.2.2.2.2.2.2.2.2.2.1 rfl rfl (Nat.le_of_ble_eq_true rfl) rfl ?_
    refine g_goto (pc := 27) 2 dd_M_copies_0.2.2.2.2.2.2.2.2.2.2.2.2.2.2.2.2.2.2.1 (by decide) ?_
    refine g_lv [1, 2, 3, 0] rfl ?_
    exact hrec2 _ _ _ _ _ _  hf
def f_M_copies_2  : Nat → Nat → Int32 → Int32 → Int32 → mH → Option mH
  | 0 => fun _ _ _ _ _ => none
  | n + 1 => f_M_copies_2b  (f_M_copies_2  n)
theorem t_M_copies_2 {sc : Nat × (Nat → Int32)}  : ∀ (n : Nat) (b0 : Nat) (b1 : Int32) (b2 : Int32) (b3 : Int32) (h : mH) (h' : mH) (hf : f_M_copies_2  n b0 b1 b2 b3 h = some h'), G sc y_M_copies prog_10_method_83_code 4 none 0 0 2 [(0, .ref b0), (1, .int b1), (2, .int b2), (3, .int b3)] [] h none h'
  | 0, _, _, _, _, _, _, hf => by cases hf
  | n + 1, _, _, _, _, _, _, hf => t_M_copies_2b  (f_M_copies_2  n) (t_M_copies_2  n) _ _ _ _ _ _ hf
def f_M_copies_0  (a0 : Nat) (a1 : Int32) (a2 : Int32) (h : mH) : Option mH :=
  f_M_copies_2  FU a0 a1 a2 (0 : Int32) h
set_option maxRecDepth 20000 in
theorem t_M_copies_0 {sc : Nat × (Nat → Int32)}  (a0 : Nat) (a1 : Int32) (a2 : Int32) (h : mH) (h' : mH) (hf : f_M_copies_0  a0 a1 a2 h = some h') : G sc y_M_copies prog_10_method_83_code 4 none 0 0 0 [(0, .ref a0), (1, .int a1), (2, .int a2)] [] h none h' := by
  unfold f_M_copies_0 at hf
  refine g_iconst (pc := 0) (0 : Int32) dd_M_copies_0.1 (by decide) ?_
  refine g_istore_n (pc := 1) [(3, .int (0 : Int32)), (0, .ref a0), (1, .int a1), (2, .int a2)] dd_M_copies_0.2.1 rfl (Nat.le_of_ble_eq_true rfl) rfl ?_
  refine g_lv [1, 2, 3, 0] rfl ?_
  exact t_M_copies_2  FU _ _ _ _ _ _  hf
def f_M_copies (a0 : Nat) (a1 : Int32) (a2 : Int32) (h : mH) : Option mH := f_M_copies_0 a0 a1 a2 h
theorem c_M_copies {sc : Nat × (Nat → Int32)} {a0 : Nat} {a1 : Int32} {a2 : Int32} {h : mH} {h' : mH} (hf : f_M_copies a0 a1 a2 h = some h') : MM sc y_M_copies prog_10_method_83_code 4 none 0 0 [.ref a0, .int a1, .int a2] h none h' :=
  mm_of_G si_pn_M (Nat.le_of_ble_eq_true rfl) (t_M_copies_0 _ _ _ _ _ hf)
/-! M keep (I)I -/
set_option maxRecDepth 100000 in
theorem dd_M_keep_0 : (decode prog_10_method_84_code 0 = .ok (.iload_n 1, 1)) ∧ (decode prog_10_method_84_code 1 = .ok (.i2l, 1)) ∧ (decode prog_10_method_84_code 2 = .ok (.lconst 0, 1)) ∧ (decode prog_10_method_84_code 3 = .ok (.lconst 1, 1)) ∧ (decode prog_10_method_84_code 4 = .ok (.invokestatic 114, 3)) ∧ (decode prog_10_method_84_code 7 = .ok (.ifCond .ne 5, 3)) ∧ (decode prog_10_method_84_code 10 = .ok (.iconst (-1), 1)) ∧ (decode prog_10_method_84_code 11 = .ok (.ireturn, 1)) ∧ (decode prog_10_method_84_code 12 = .ok (.aload_n 0, 1)) ∧ (decode prog_10_method_84_code 13 = .ok (.getfield 13, 3)) ∧ (decode prog_10_method_84_code 16 = .ok (.iload_n 1, 1)) ∧ (decode prog_10_method_84_code 17 = .ok (.baload, 1)) ∧ (decode prog_10_method_84_code 18 = .ok (.invokestatic 220, 3)) ∧ (decode prog_10_method_84_code 21 = .ok (.istore_n 2, 1)) ∧ (decode prog_10_method_84_code 22 = .ok (.aload_n 0, 1)) ∧ (decode prog_10_method_84_code 23 = .ok (.getfield 13, 3)) ∧ (decode prog_10_method_84_code 26 = .ok (.iload_n 1, 1)) ∧ (decode prog_10_method_84_code 27 = .ok (.iconst 1, 1)) ∧ (decode prog_10_method_84_code 28 = .ok (.bastore, 1)) ∧ (decode prog_10_method_84_code 29 = .ok (.aload_n 0, 1)) ∧ (decode prog_10_method_84_code 30 = .ok (.bipush 66, 2)) ∧ (decode prog_10_method_84_code 32 = .ok (.iload_n 1, 1)) ∧ (decode prog_10_method_84_code 33 = .ok (.iconst 1, 1)) ∧ (decode prog_10_method_84_code 34 = .ok (.iadd, 1)) := by
  have h : List.drop 0 prog_10_method_84_code.data.toList = 0x1b :: _ := rfl
  refine ⟨zq_k_n 27 h rfl (zq_o_27 _), ?_⟩
  replace h := zq_nx1 (q := 1) h rfl
  refine ⟨zq_k_n 133 h rfl (zq_o_133 _), ?_⟩
  replace h := zq_nx1 (q := 2) h rfl
  refine ⟨zq_k_n 9 h rfl (zq_o_9 _), ?_⟩
  replace h := zq_nx1 (q := 3) h rfl
  refine ⟨zq_k_n 10 h rfl (zq_o_10 _), ?_⟩
  replace h := zq_nx1 (q := 4) h rfl
  refine ⟨zq_k_u2 184 (fun z => .invokestatic z) 114 h rfl (zq_o_184 _) (by decide +kernel), ?_⟩
  replace h := zq_nx3 (q := 7) h rfl
  refine ⟨zq_k_s2 154 (fun z => .ifCond .ne z) 5 h rfl (zq_o_154 _) (by decide +kernel), ?_⟩
  replace h := zq_nx3 (q := 10) h rfl
  refine ⟨zq_k_n 2 h rfl (zq_o_2 _), ?_⟩
  replace h := zq_nx1 (q := 11) h rfl
  refine ⟨zq_k_n 172 h rfl (zq_o_172 _), ?_⟩
  replace h := zq_nx1 (q := 12) h rfl
  refine ⟨zq_k_n 42 h rfl (zq_o_42 _), ?_⟩
  replace h := zq_nx1 (q := 13) h rfl
  refine ⟨zq_k_u2 180 (fun z => .getfield z) 13 h rfl (zq_o_180 _) (by decide +kernel), ?_⟩
  replace h := zq_nx3 (q := 16) h rfl
  refine ⟨zq_k_n 27 h rfl (zq_o_27 _), ?_⟩
  replace h := zq_nx1 (q := 17) h rfl
  refine ⟨zq_k_n 51 h rfl (zq_o_51 _), ?_⟩
  replace h := zq_nx1 (q := 18) h rfl
  refine ⟨zq_k_u2 184 (fun z => .invokestatic z) 220 h rfl (zq_o_184 _) (by decide +kernel), ?_⟩
  replace h := zq_nx3 (q := 21) h rfl
  refine ⟨zq_k_n 61 h rfl (zq_o_61 _), ?_⟩
  replace h := zq_nx1 (q := 22) h rfl
  refine ⟨zq_k_n 42 h rfl (zq_o_42 _), ?_⟩
  replace h := zq_nx1 (q := 23) h rfl
  refine ⟨zq_k_u2 180 (fun z => .getfield z) 13 h rfl (zq_o_180 _) (by decide +kernel), ?_⟩
  replace h := zq_nx3 (q := 26) h rfl
  refine ⟨zq_k_n 27 h rfl (zq_o_27 _), ?_⟩
  replace h := zq_nx1 (q := 27) h rfl
  refine ⟨zq_k_n 4 h rfl (zq_o_4 _), ?_⟩
  replace h := zq_nx1 (q := 28) h rfl
  refine ⟨zq_k_n 84 h rfl (zq_o_84 _), ?_⟩
  replace h := zq_nx1 (q := 29) h rfl
  refine ⟨zq_k_n 42 h rfl (zq_o_42 _), ?_⟩
  replace h := zq_nx1 (q := 30) h rfl
  refine ⟨zq_k_s1 16 (fun z => .bipush z) 66 h rfl (zq_o_16 _) (by decide +kernel), ?_⟩
  replace h := zq_nx2 (q := 32) h rfl
  refine ⟨zq_k_n 27 h rfl (zq_o_27 _), ?_⟩
  replace h := zq_nx1 (q := 33) h rfl
  refine ⟨zq_k_n 4 h rfl (zq_o_4 _), ?_⟩
  replace h := zq_nx1 (q := 34) h rfl
  exact zq_k_n 96 h rfl (zq_o_96 _)
set_option maxRecDepth 100000 in
theorem dd_M_keep_35 : (decode prog_10_method_84_code 35 = .ok (.imul, 1)) ∧ (decode prog_10_method_84_code 36 = .ok (.iconst 0, 1)) ∧ (decode prog_10_method_84_code 37 = .ok (.invokevirtual 325, 3)) ∧ (decode prog_10_method_84_code 40 = .ok (.iload_n 2, 1)) ∧ (decode prog_10_method_84_code 41 = .ok (.ireturn, 1)) := by
  have h : List.drop 35 prog_10_method_84_code.data.toList = 0x68 :: _ := rfl
  refine ⟨zq_k_n 104 h rfl (zq_o_104 _), ?_⟩
  replace h := zq_nx1 (q := 36) h rfl
  refine ⟨zq_k_n 3 h rfl (zq_o_3 _), ?_⟩
  replace h := zq_nx1 (q := 37) h rfl
  refine ⟨zq_k_u2 182 (fun z => .invokevirtual z) 325 h rfl (zq_o_182 _) (by decide +kernel), ?_⟩
  replace h := zq_nx3 (q := 40) h rfl
  refine ⟨zq_k_n 28 h rfl (zq_o_28 _), ?_⟩
  replace h := zq_nx1 (q := 41) h rfl
  exact zq_k_n 172 h rfl (zq_o_172 _)
def f_M_keep_0  (a0 : Nat) (a1 : Int32) (h : mH) : Option (Int32 × mH) :=
  bd2 (f_M_in a1.toInt64 (0 : Int64) (1 : Int64) h) fun x3 h1 =>
  if x3 = 0 then
    some (((-1) : Int32), h1)
  else
    bd1 (gR h1 a0 8 1) fun x4 =>
    bd1 (aI h1 2 x4 a1) fun x6 =>
    bd2 (f_M_flag x6 h1) fun x10 h8 =>
    bd1 (gR h8 a0 8 1) fun x11 =>
    bd1 (sI h8 2 x11 a1 (vp_nar .boolean (1 : Int32))) fun h13 =>
    bd1 (kC h13 a0 8) fun _ =>
    bd1 (f_M_copies a0 ((66 : Int32) * (a1 + (1 : Int32))) (0 : Int32) h13) fun h17 =>
    some (x10, h17)
set_option maxRecDepth 20000 in
theorem t_M_keep_0 {sc : Nat × (Nat → Int32)}  (a0 : Nat) (a1 : Int32) (h : mH) (r : Int32) (h' : mH) (hf : f_M_keep_0  a0 a1 h = some (r, h')) : G sc y_M_keep prog_10_method_84_code 3 (some .int) 1 25 0 [(0, .ref a0), (1, .int a1)] [] h (some (.int r)) h' := by
  unfold f_M_keep_0 at hf
  refine g_iload_n (pc := 0) 1 dd_M_keep_0.1 rfl rfl ?_
  refine g_i2l (pc := 1) dd_M_keep_0.2.1 ?_
  refine g_lconst (pc := 2) (0 : Int64) dd_M_keep_0.2.2.1 (by decide) ?_
  refine g_lconst (pc := 3) (1 : Int64) dd_M_keep_0.2.2.2.1 (by decide) ?_
  obtain ⟨x3, h1, e2, hf⟩ := bd2_e hf
  refine g_callS (pc := 4) [.long a1.toInt64, .long (0 : Int64), .long (1 : Int64)] (site_of si_M_in (by decide) (by decide)) wd_1061 wd_1062 dd_M_keep_0.2.2.2.2.1 (Nat.le_of_ble_eq_true rfl) (fun z => absurd z si_na_M_in) (fun z => absurd z si_na_M_in) (fun z => absurd z si_na_M_in) (c_M_in e2) rfl ?_
  refine g_st [.int x3] rfl ?_
  refine g_ifne (pc := 7) 12 dd_M_keep_0.2.2.2.2.2.1 (by decide) (fun c19 => ?_) (fun c19 => ?_)
  · replace hf := (if_neg c19).symm.trans hf
    refine g_aload_n (pc := 12) 0 dd_M_keep_0.2.2.2.2.2.2.2.2.1 rfl rfl ?_
    obtain ⟨x4, e5, hf⟩ := bd1_e hf
    refine g_get (pc := 13) (ci := 8) (kk := 1) dd_M_keep_0.2.2.2.2.2.2.2.2.2.1 rfl in_M (by decide) wd_939 (gR_spec e5) ?_
    refine g_iload_n (pc := 16) 1 dd_M_keep_0.2.2.2.2.2.2.2.2.2.2.1 rfl rfl ?_
    obtain ⟨x6, e7, hf⟩ := bd1_e hf
    refine g_zald (pc := 17) dd_M_keep_0.2.2.2.2.2.2.2.2.2.2.2.1 e7 ?_
    obtain ⟨x10, h8, e9, hf⟩ := bd2_e hf
    refine g_callS (pc := 18) [.int x6] (site_of si_M_flag (by decide) (by decide)) wd_1180 wd_1181 dd_M_keep_0.2.2.2.2.2.2.2.2.2.2.2.2.1 (Nat.le_of_ble_eq_true rfl) (fun z => absurd z si_na_M_flag) (fun z => absurd z si_na_M_flag) (fun z => absurd z si_na_M_flag) (c_M_flag e9) rfl ?_
    refine g_st [.int x10] rfl ?_
    refine g_istore_n (pc := 21) [(2, .int x10), (0, .ref a0), (1, .int a1)] dd_M_keep_0.2.2.2.2.2.2.2.2.2.2.2.2.2.1 rfl (Nat.le_of_ble_eq_true rfl) rfl ?_
    refine g_aload_n (pc := 22) 1 dd_M_keep_0.2.2.2.2.2.2.2.2.2.2.2.2.2.2.1 rfl rfl ?_
    obtain ⟨x11, e12, hf⟩ := bd1_e hf
    refine g_get (pc := 23) (ci := 8) (kk := 1) dd_M_keep_0.2.2.2.2.2.2.2.2.2.2.2.2.2.2.2.1 rfl in_M (by decide) wd_939 (gR_spec e12) ?_
    refine g_iload_n (pc := 26) 2 dd_M_keep_0.2.2.2.2.2.2.2.2.2.2.2.2.2.2.2.2.1 rfl rfl ?_
    refine g_iconst (pc := 27) (1 : Int32) dd_M_keep_0.2.2.2.2.2.2.2.2.2.2.2.2.2.2.2.2.2.1 (by decide) ?_
    obtain ⟨h13, e14, hf⟩ := bd1_e hf
    refine g_zast (pc := 28) dd_M_keep_0.2.2.2.2.2.2.2.2.2.2.2.2.2.2.2.2.2.2.1 e14 ?_
    refine g_aload_n (pc := 29) 1 dd_M_keep_0.2.2.2.2.2.2.2.2.2.2.2.2.2.2.2.2.2.2.2.1 rfl rfl ?_
    refine g_bipush (pc := 30) (66 : Int32) dd_M_keep_0.2.2.2.2.2.2.2.2.2.2.2.2.2.2.2.2.2.2.2.2.1 (by decide) ?_
    refine g_iload_n (pc := 32) 2 dd_M_keep_0.2.2.2.2.2.2.2.2.2.2.2.2.2.2.2.2.2.2.2.2.2.1 rfl rfl ?_
    refine g_iconst (pc := 33) (1 : Int32) dd_M_keep_0.2.2.2.2.2.2.2.2.2.2.2.2.2.2.2.2.2.2.2.2.2.2.1 (by decide) ?_
    refine g_iadd (pc := 34) dd_M_keep_0.2.2.2.2.2.2.2.2.2.2.2.2.2.2.2.2.2.2.2.2.2.2.2 ?_
    refine g_imul (pc := 35) dd_M_keep_35.1 ?_
    refine g_iconst (pc := 36) (0 : Int32) dd_M_keep_35.2.1 (by decide) ?_
    obtain ⟨u16, e15, hf⟩ := bd1_e hf
    obtain ⟨h17, e18, hf⟩ := bd1_e hf
    refine g_callV (pc := 37) (ci := 8) [.int ((66 : Int32) * (a1 + (1 : Int32))), .int (0 : Int32)] (site_of si_M_copies (by decide) (by decide)) wd_1384 wd_1386 wp_74 dd_M_keep_35.2.2.1 rfl e15 (Nat.le_of_ble_eq_true rfl) (fun z => absurd z si_na_M_copies) (fun z => absurd z si_na_M_copies) (fun z => absurd z si_na_M_copies) (c_M_copies e18) rfl ?_
    refine g_st [] rfl ?_
    refine g_iload_n (pc := 40) 0 dd_M_keep_35.2.2.2.1 rfl rfl ?_
    obtain ⟨rfl, rfl⟩ := ret2 hf
    exact g_iret (pc := 41) rfl dd_M_keep_35.2.2.2.2
  · replace hf := (if_pos c19).symm.trans hf
    refine g_iconst (pc := 10) ((-1) : Int32) dd_M_keep_0.2.2.2.2.2.2.1 (by decide) ?_
    obtain ⟨rfl, rfl⟩ := ret2 hf
    exact g_iret (pc := 11) rfl dd_M_keep_0.2.2.2.2.2.2.2.1
def f_M_keep (a0 : Nat) (a1 : Int32) (h : mH) : Option (Int32 × mH) := f_M_keep_0 a0 a1 h
theorem c_M_keep {sc : Nat × (Nat → Int32)} {a0 : Nat} {a1 : Int32} {h : mH} {r : Int32} {h' : mH} (hf : f_M_keep a0 a1 h = some (r, h')) : MM sc y_M_keep prog_10_method_84_code 3 (some .int) 1 25 [.ref a0, .int a1] h (some (.int r)) h' :=
  mm_of_G si_pn_M (Nat.le_of_ble_eq_true rfl) (t_M_keep_0 _ _ _ _ _ hf)
/-! M back (I)I -/
set_option maxRecDepth 100000 in
theorem dd_M_back_0 : (decode prog_10_method_85_code 0 = .ok (.iload_n 1, 1)) ∧ (decode prog_10_method_85_code 1 = .ok (.i2l, 1)) ∧ (decode prog_10_method_85_code 2 = .ok (.lconst 0, 1)) ∧ (decode prog_10_method_85_code 3 = .ok (.lconst 1, 1)) ∧ (decode prog_10_method_85_code 4 = .ok (.invokestatic 114, 3)) ∧ (decode prog_10_method_85_code 7 = .ok (.ifCond .ne 5, 3)) ∧ (decode prog_10_method_85_code 10 = .ok (.iconst (-1), 1)) ∧ (decode prog_10_method_85_code 11 = .ok (.ireturn, 1)) ∧ (decode prog_10_method_85_code 12 = .ok (.aload_n 0, 1)) ∧ (decode prog_10_method_85_code 13 = .ok (.getfield 13, 3)) ∧ (decode prog_10_method_85_code 16 = .ok (.iload_n 1, 1)) ∧ (decode prog_10_method_85_code 17 = .ok (.baload, 1)) ∧ (decode prog_10_method_85_code 18 = .ok (.ifCond .ne 6, 3)) ∧ (decode prog_10_method_85_code 21 = .ok (.bipush (-2), 2)) ∧ (decode prog_10_method_85_code 23 = .ok (.ireturn, 1)) ∧ (decode prog_10_method_85_code 24 = .ok (.aload_n 0, 1)) ∧ (decode prog_10_method_85_code 25 = .ok (.iconst 0, 1)) ∧ (decode prog_10_method_85_code 26 = .ok (.bipush 66, 2)) ∧ (decode prog_10_method_85_code 28 = .ok (.iload_n 1, 1)) ∧ (decode prog_10_method_85_code 29 = .ok (.iconst 1, 1)) ∧ (decode prog_10_method_85_code 30 = .ok (.iadd, 1)) ∧ (decode prog_10_method_85_code 31 = .ok (.imul, 1)) ∧ (decode prog_10_method_85_code 32 = .ok (.invokevirtual 325, 3)) ∧ (decode prog_10_method_85_code 35 = .ok (.aload_n 0, 1)) := by
  have h : List.drop 0 prog_10_method_85_code.data.toList = 0x1b :: _ := rfl
  refine ⟨zq_k_n 27 h rfl (zq_o_27 _), ?_⟩
  replace h := zq_nx1 (q := 1) h rfl
  refine ⟨zq_k_n 133 h rfl (zq_o_133 _), ?_⟩
  replace h := zq_nx1 (q := 2) h rfl
  refine ⟨zq_k_n 9 h rfl (zq_o_9 _), ?_⟩
  replace h := zq_nx1 (q := 3) h rfl
  refine ⟨zq_k_n 10 h rfl (zq_o_10 _), ?_⟩
  replace h := zq_nx1 (q := 4) h rfl
  refine ⟨zq_k_u2 184 (fun z => .invokestatic z) 114 h rfl (zq_o_184 _) (by decide +kernel), ?_⟩
  replace h := zq_nx3 (q := 7) h rfl
  refine ⟨zq_k_s2 154 (fun z => .ifCond .ne z) 5 h rfl (zq_o_154 _) (by decide +kernel), ?_⟩
  replace h := zq_nx3 (q := 10) h rfl
  refine ⟨zq_k_n 2 h rfl (zq_o_2 _), ?_⟩
  replace h := zq_nx1 (q := 11) h rfl
  refine ⟨zq_k_n 172 h rfl (zq_o_172 _), ?_⟩
  replace h := zq_nx1 (q := 12) h rfl
  refine ⟨zq_k_n 42 h rfl (zq_o_42 _), ?_⟩
  replace h := zq_nx1 (q := 13) h rfl
  refine ⟨zq_k_u2 180 (fun z => .getfield z) 13 h rfl (zq_o_180 _) (by decide +kernel), ?_⟩
  replace h := zq_nx3 (q := 16) h rfl
  refine ⟨zq_k_n 27 h rfl (zq_o_27 _), ?_⟩
  replace h := zq_nx1 (q := 17) h rfl
  refine ⟨zq_k_n 51 h rfl (zq_o_51 _), ?_⟩
  replace h := zq_nx1 (q := 18) h rfl
  refine ⟨zq_k_s2 154 (fun z => .ifCond .ne z) 6 h rfl (zq_o_154 _) (by decide +kernel), ?_⟩
  replace h := zq_nx3 (q := 21) h rfl
  refine ⟨zq_k_s1 16 (fun z => .bipush z) (-2) h rfl (zq_o_16 _) (by decide +kernel), ?_⟩
  replace h := zq_nx2 (q := 23) h rfl
  refine ⟨zq_k_n 172 h rfl (zq_o_172 _), ?_⟩
  replace h := zq_nx1 (q := 24) h rfl
  refine ⟨zq_k_n 42 h rfl (zq_o_42 _), ?_⟩
  replace h := zq_nx1 (q := 25) h rfl
  refine ⟨zq_k_n 3 h rfl (zq_o_3 _), ?_⟩
  replace h := zq_nx1 (q := 26) h rfl
  refine ⟨zq_k_s1 16 (fun z => .bipush z) 66 h rfl (zq_o_16 _) (by decide +kernel), ?_⟩
  replace h := zq_nx2 (q := 28) h rfl
  refine ⟨zq_k_n 27 h rfl (zq_o_27 _), ?_⟩
  replace h := zq_nx1 (q := 29) h rfl
  refine ⟨zq_k_n 4 h rfl (zq_o_4 _), ?_⟩
  replace h := zq_nx1 (q := 30) h rfl
  refine ⟨zq_k_n 96 h rfl (zq_o_96 _), ?_⟩
  replace h := zq_nx1 (q := 31) h rfl
  refine ⟨zq_k_n 104 h rfl (zq_o_104 _), ?_⟩
  replace h := zq_nx1 (q := 32) h rfl
  refine ⟨zq_k_u2 182 (fun z => .invokevirtual z) 325 h rfl (zq_o_182 _) (by decide +kernel), ?_⟩
  replace h := zq_nx3 (q := 35) h rfl
  exact zq_k_n 42 h rfl (zq_o_42 _)
set_option maxRecDepth 100000 in
theorem dd_M_back_36 : (decode prog_10_method_85_code 36 = .ok (.getfield 7, 3)) ∧ (decode prog_10_method_85_code 39 = .ok (.bipush 39, 2)) ∧ (decode prog_10_method_85_code 41 = .ok (.iaload, 1)) ∧ (decode prog_10_method_85_code 42 = .ok (.ireturn, 1)) := by
  have h : List.drop 36 prog_10_method_85_code.data.toList = 0xb4 :: _ := rfl
  refine ⟨zq_k_u2 180 (fun z => .getfield z) 7 h rfl (zq_o_180 _) (by decide +kernel), ?_⟩
  replace h := zq_nx3 (q := 39) h rfl
  refine ⟨zq_k_s1 16 (fun z => .bipush z) 39 h rfl (zq_o_16 _) (by decide +kernel), ?_⟩
  replace h := zq_nx2 (q := 41) h rfl
  refine ⟨zq_k_n 46 h rfl (zq_o_46 _), ?_⟩
  replace h := zq_nx1 (q := 42) h rfl
  exact zq_k_n 172 h rfl (zq_o_172 _)
def f_M_back_0  (a0 : Nat) (a1 : Int32) (h : mH) : Option (Int32 × mH) :=
  bd2 (f_M_in a1.toInt64 (0 : Int64) (1 : Int64) h) fun x3 h1 =>
  if x3 = 0 then
    some (((-1) : Int32), h1)
  else
    bd1 (gR h1 a0 8 1) fun x4 =>
    bd1 (aI h1 2 x4 a1) fun x6 =>
    if x6 = 0 then
      some (((-2) : Int32), h1)
    else
      bd1 (kC h1 a0 8) fun _ =>
      bd1 (f_M_copies a0 (0 : Int32) ((66 : Int32) * (a1 + (1 : Int32))) h1) fun h10 =>
      bd1 (gR h10 a0 8 0) fun x12 =>
      bd1 (aI h10 0 x12 (39 : Int32)) fun x14 =>
      some (x14, h10)
set_option maxRecDepth 20000 in
theorem t_M_back_0 {sc : Nat × (Nat → Int32)}  (a0 : Nat) (a1 : Int32) (h : mH) (r : Int32) (h' : mH) (hf : f_M_back_0  a0 a1 h = some (r, h')) : G sc y_M_back prog_10_method_85_code 2 (some .int) 1 25 0 [(0, .ref a0), (1, .int a1)] [] h (some (.int r)) h' := by
  unfold f_M_back_0 at hf
  refine g_iload_n (pc := 0) 1 dd_M_back_0.1 rfl rfl ?_
  refine g_i2l (pc := 1) dd_M_back_0.2.1 ?_
  refine g_lconst (pc := 2) (0 : Int64) dd_M_back_0.2.2.1 (by decide) ?_
  refine g_lconst (pc := 3) (1 : Int64) dd_M_back_0.2.2.2.1 (by decide) ?_
  obtain ⟨x3, h1, e2, hf⟩ := bd2_e hf
  refine g_callS (pc := 4) [.long a1.toInt64, .long (0 : Int64), .long (1 : Int64)] (site_of si_M_in (by decide) (by decide)) wd_1061 wd_1062 dd_M_back_0.2.2.2.2.1 (Nat.le_of_ble_eq_true rfl) (fun z => absurd z si_na_M_in) (fun z => absurd z si_na_M_in) (fun z => absurd z si_na_M_in) (c_M_in e2) rfl ?_
  refine g_st [.int x3] rfl ?_
  refine g_ifne (pc := 7) 12 dd_M_back_0.2.2.2.2.2.1 (by decide) (fun c17 => ?_) (fun c17 => ?_)
  · replace hf := (if_neg c17).symm.trans hf
    refine g_aload_n (pc := 12) 0 dd_M_back_0.2.2.2.2.2.2.2.2.1 rfl rfl ?_
    obtain ⟨x4, e5, hf⟩ := bd1_e hf
    refine g_get (pc := 13) (ci := 8) (kk := 1) dd_M_back_0.2.2.2.2.2.2.2.2.2.1 rfl in_M (by decide) wd_939 (gR_spec e5) ?_
    refine g_iload_n (pc := 16) 1 dd_M_back_0.2.2.2.2.2.2.2.2.2.2.1 rfl rfl ?_
    obtain ⟨x6, e7, hf⟩ := bd1_e hf
    refine g_zald (pc := 17) dd_M_back_0.2.2.2.2.2.2.2.2.2.2.2.1 e7 ?_
    refine g_ifne (pc := 18) 24 dd_M_back_0.2.2.2.2.2.2.2.2.2.2.2.2.1 (by decide) (fun c16 => ?_) (fun c16 => ?_)
    · replace hf := (if_neg c16).symm.trans hf
      refine g_aload_n (pc := 24) 0 dd_M_back_0.2.2.2.2.2.2.2.2.2.2.2.2.2.2.2.1 rfl rfl ?_
      refine g_iconst (pc := 25) (0 : Int32) dd_M_back_0.2.2.2.2.2.2.2.2.2.2.2.2.2.2.2.2.1 (by decide) ?_
      refine g_bipush (pc := 26) (66 : Int32) dd_M_back_0.2.2.2.2.2.2.2.2.2.2.2.2.2.2.2.2.2.1 (by decide) ?_
      refine g_iload_n (pc := 28) 1 dd_M_back_0.2.2.2.2.2.2.2.2.2.2.2.2.2.2.2.2.2.2.1 rfl rfl ?_
      refine g_iconst (pc := 29) (1 : Int32) dd_M_back_0.2.2.2.2.2.2.2.2.2.2.2.2.2.2.2.2.2.2.2.1 (by decide) ?_
      refine g_iadd (pc := 30) dd_M_back_0.2.2.2.2.2.2.2.2.2.2.2.2.2.2.2.2.2.2.2.2.1 ?_
      refine g_imul (pc := 31) dd_M_back_0.2.2.2.2.2.2.2.2.2.2.2.2.2.2.2.2.2.2.2.2.2.1 ?_
      obtain ⟨u9, e8, hf⟩ := bd1_e hf
      obtain ⟨h10, e11, hf⟩ := bd1_e hf
      refine g_callV (pc := 32) (ci := 8) [.int (0 : Int32), .int ((66 : Int32) * (a1 + (1 : Int32)))] (site_of si_M_copies (by decide) (by decide)) wd_1384 wd_1386 wp_74 dd_M_back_0.2.2.2.2.2.2.2.2.2.2.2.2.2.2.2.2.2.2.2.2.2.2.1 rfl e8 (Nat.le_of_ble_eq_true rfl) (fun z => absurd z si_na_M_copies) (fun z => absurd z si_na_M_copies) (fun z => absurd z si_na_M_copies) (c_M_copies e11) rfl ?_
      refine g_st [] rfl ?_
      refine g_aload_n (pc := 35) 0 dd_M_back_0.2.2.2.2.2.2.2.2.2.2.2.2.2.2.2.2.2.2.2.2.2.2.2 rfl rfl ?_
      obtain ⟨x12, e13, hf⟩ := bd1_e hf
      refine g_get (pc := 36) (ci := 8) (kk := 0) dd_M_back_36.1 rfl in_M (by decide) wd_938 (gR_spec e13) ?_
      refine g_bipush (pc := 39) (39 : Int32) dd_M_back_36.2.1 (by decide) ?_
      obtain ⟨x14, e15, hf⟩ := bd1_e hf
      refine g_iald (pc := 41) dd_M_back_36.2.2.1 e15 ?_
      obtain ⟨rfl, rfl⟩ := ret2 hf
      exact g_iret (pc := 42) rfl dd_M_back_36.2.2.2
    · replace hf := (if_pos c16).symm.trans hf
      refine g_bipush (pc := 21) ((-2) : Int32) dd_M_back_0.2.2.2.2.2.2.2.2.2.2.2.2.2.1 (by decide) ?_
      obtain ⟨rfl, rfl⟩ := ret2 hf
      exact g_iret (pc := 23) rfl dd_M_back_0.2.2.2.2.2.2.2.2.2.2.2.2.2.2.1
  · replace hf := (if_pos c17).symm.trans hf
    refine g_iconst (pc := 10) ((-1) : Int32) dd_M_back_0.2.2.2.2.2.2.1 (by decide) ?_
    obtain ⟨rfl, rfl⟩ := ret2 hf
    exact g_iret (pc := 11) rfl dd_M_back_0.2.2.2.2.2.2.2.1
def f_M_back (a0 : Nat) (a1 : Int32) (h : mH) : Option (Int32 × mH) := f_M_back_0 a0 a1 h
theorem c_M_back {sc : Nat × (Nat → Int32)} {a0 : Nat} {a1 : Int32} {h : mH} {r : Int32} {h' : mH} (hf : f_M_back a0 a1 h = some (r, h')) : MM sc y_M_back prog_10_method_85_code 2 (some .int) 1 25 [.ref a0, .int a1] h (some (.int r)) h' :=
  mm_of_G si_pn_M (Nat.le_of_ble_eq_true rfl) (t_M_back_0 _ _ _ _ _ hf)
/-! M isSheet (II)Z -/
set_option maxRecDepth 100000 in
theorem dd_M_isSheet_0 : (decode prog_10_method_86_code 0 = .ok (.iload_n 0, 1)) ∧ (decode prog_10_method_86_code 1 = .ok (.i2l, 1)) ∧ (decode prog_10_method_86_code 2 = .ok (.lconst 0, 1)) ∧ (decode prog_10_method_86_code 3 = .ok (.ldc2_w 251, 3)) ∧ (decode prog_10_method_86_code 6 = .ok (.invokestatic 114, 3)) ∧ (decode prog_10_method_86_code 9 = .ok (.ifCond .eq 19, 3)) ∧ (decode prog_10_method_86_code 12 = .ok (.iload_n 1, 1)) ∧ (decode prog_10_method_86_code 13 = .ok (.i2l, 1)) ∧ (decode prog_10_method_86_code 14 = .ok (.lconst 0, 1)) ∧ (decode prog_10_method_86_code 15 = .ok (.ldc2_w 273, 3)) ∧ (decode prog_10_method_86_code 18 = .ok (.invokestatic 114, 3)) ∧ (decode prog_10_method_86_code 21 = .ok (.ifCond .eq 7, 3)) ∧ (decode prog_10_method_86_code 24 = .ok (.iconst 1, 1)) ∧ (decode prog_10_method_86_code 25 = .ok (.goto 4, 3)) ∧ (decode prog_10_method_86_code 28 = .ok (.iconst 0, 1)) ∧ (decode prog_10_method_86_code 29 = .ok (.ireturn, 1)) := by
  have h : List.drop 0 prog_10_method_86_code.data.toList = 0x1a :: _ := rfl
  refine ⟨zq_k_n 26 h rfl (zq_o_26 _), ?_⟩
  replace h := zq_nx1 (q := 1) h rfl
  refine ⟨zq_k_n 133 h rfl (zq_o_133 _), ?_⟩
  replace h := zq_nx1 (q := 2) h rfl
  refine ⟨zq_k_n 9 h rfl (zq_o_9 _), ?_⟩
  replace h := zq_nx1 (q := 3) h rfl
  refine ⟨zq_k_u2 20 (fun z => .ldc2_w z) 251 h rfl (zq_o_20 _) (by decide +kernel), ?_⟩
  replace h := zq_nx3 (q := 6) h rfl
  refine ⟨zq_k_u2 184 (fun z => .invokestatic z) 114 h rfl (zq_o_184 _) (by decide +kernel), ?_⟩
  replace h := zq_nx3 (q := 9) h rfl
  refine ⟨zq_k_s2 153 (fun z => .ifCond .eq z) 19 h rfl (zq_o_153 _) (by decide +kernel), ?_⟩
  replace h := zq_nx3 (q := 12) h rfl
  refine ⟨zq_k_n 27 h rfl (zq_o_27 _), ?_⟩
  replace h := zq_nx1 (q := 13) h rfl
  refine ⟨zq_k_n 133 h rfl (zq_o_133 _), ?_⟩
  replace h := zq_nx1 (q := 14) h rfl
  refine ⟨zq_k_n 9 h rfl (zq_o_9 _), ?_⟩
  replace h := zq_nx1 (q := 15) h rfl
  refine ⟨zq_k_u2 20 (fun z => .ldc2_w z) 273 h rfl (zq_o_20 _) (by decide +kernel), ?_⟩
  replace h := zq_nx3 (q := 18) h rfl
  refine ⟨zq_k_u2 184 (fun z => .invokestatic z) 114 h rfl (zq_o_184 _) (by decide +kernel), ?_⟩
  replace h := zq_nx3 (q := 21) h rfl
  refine ⟨zq_k_s2 153 (fun z => .ifCond .eq z) 7 h rfl (zq_o_153 _) (by decide +kernel), ?_⟩
  replace h := zq_nx3 (q := 24) h rfl
  refine ⟨zq_k_n 4 h rfl (zq_o_4 _), ?_⟩
  replace h := zq_nx1 (q := 25) h rfl
  refine ⟨zq_k_s2 167 (fun z => .goto z) 4 h rfl (zq_o_167 _) (by decide +kernel), ?_⟩
  replace h := zq_nx3 (q := 28) h rfl
  refine ⟨zq_k_n 3 h rfl (zq_o_3 _), ?_⟩
  replace h := zq_nx1 (q := 29) h rfl
  exact zq_k_n 172 h rfl (zq_o_172 _)
def f_M_isSheet_28   (h : mH) : Option (Int32 × mH) :=
  some ((0 : Int32), h)
set_option maxRecDepth 20000 in
theorem t_M_isSheet_28 {sc : Nat × (Nat → Int32)}   (h : mH) (r : Int32) (h' : mH) (hf : f_M_isSheet_28   h = some (r, h')) : G sc y_M_isSheet prog_10_method_86_code 2 (some .boolean) 1 25 28 [] [] h (some (.int r)) h' := by
  unfold f_M_isSheet_28 at hf
  refine g_iconst (pc := 28) (0 : Int32) dd_M_isSheet_0.2.2.2.2.2.2.2.2.2.2.2.2.2.2.1 (by decide) ?_
  obtain ⟨rfl, rfl⟩ := ret2 hf
  exact g_zret (pc := 29) rfl rfl dd_M_isSheet_0.2.2.2.2.2.2.2.2.2.2.2.2.2.2.2
def f_M_isSheet_0  (a0 : Int32) (a1 : Int32) (h : mH) : Option (Int32 × mH) :=
  bd2 (f_M_in a0.toInt64 (0 : Int64) (3 : Int64) h) fun x3 h1 =>
  if x3 = 0 then
    f_M_isSheet_28  h1
  else
    bd2 (f_M_in a1.toInt64 (0 : Int64) (2 : Int64) h1) fun x6 h4 =>
    if x6 = 0 then
      f_M_isSheet_28  h4
    else
      some ((1 : Int32), h4)
set_option maxRecDepth 20000 in
theorem t_M_isSheet_0 {sc : Nat × (Nat → Int32)}  (a0 : Int32) (a1 : Int32) (h : mH) (r : Int32) (h' : mH) (hf : f_M_isSheet_0  a0 a1 h = some (r, h')) : G sc y_M_isSheet prog_10_method_86_code 2 (some .boolean) 1 25 0 [(0, .int a0), (1, .int a1)] [] h (some (.int r)) h' := by
  unfold f_M_isSheet_0 at hf
  refine g_iload_n (pc := 0) 0 dd_M_isSheet_0.1 rfl rfl ?_
  refine g_i2l (pc := 1) dd_M_isSheet_0.2.1 ?_
  refine g_lconst (pc := 2) (0 : Int64) dd_M_isSheet_0.2.2.1 (by decide) ?_
  refine g_ldc2 (pc := 3) (3 : Int64) dd_M_isSheet_0.2.2.2.1 wd_1273 ?_
  obtain ⟨x3, h1, e2, hf⟩ := bd2_e hf
  refine g_callS (pc := 6) [.long a0.toInt64, .long (0 : Int64), .long (3 : Int64)] (site_of si_M_in (by decide) (by decide)) wd_1061 wd_1062 dd_M_isSheet_0.2.2.2.2.1 (Nat.le_of_ble_eq_true rfl) (fun z => absurd z si_na_M_in) (fun z => absurd z si_na_M_in) (fun z => absurd z si_na_M_in) (c_M_in e2) rfl ?_
  refine g_st [.int x3] rfl ?_
  refine g_ifeq (pc := 9) 28 dd_M_isSheet_0.2.2.2.2.2.1 (by decide) (fun c8 => ?_) (fun c8 => ?_)
  · replace hf := (if_pos c8).symm.trans hf
    refine g_lv [] rfl ?_
    exact t_M_isSheet_28  _ _ _  hf
  · replace hf := (if_neg c8).symm.trans hf
    refine g_iload_n (pc := 12) 1 dd_M_isSheet_0.2.2.2.2.2.2.1 rfl rfl ?_
    refine g_i2l (pc := 13) dd_M_isSheet_0.2.2.2.2.2.2.2.1 ?_
    refine g_lconst (pc := 14) (0 : Int64) dd_M_isSheet_0.2.2.2.2.2.2.2.2.1 (by decide) ?_
    refine g_ldc2 (pc := 15) (2 : Int64) dd_M_isSheet_0.2.2.2.2.2.2.2.2.2.1 wd_1306 ?_
    obtain ⟨x6, h4, e5, hf⟩ := bd2_e hf
    refine g_callS (pc := 18) [.long a1.toInt64, .long (0 : Int64), .long (2 : Int64)] (site_of si_M_in (by decide) (by decide)) wd_1061 wd_1062 dd_M_isSheet_0.2.2.2.2.2.2.2.2.2.2.1 (Nat.le_of_ble_eq_true rfl) (fun z => absurd z si_na_M_in) (fun z => absurd z si_na_M_in) (fun z => absurd z si_na_M_in) (c_M_in e5) rfl ?_
    refine g_st [.int x6] rfl ?_
    refine g_ifeq (pc := 21) 28 dd_M_isSheet_0.2.2.2.2.2.2.2.2.2.2.2.1 (by decide) (fun c7 => ?_) (fun c7 => ?_)
    · replace hf := (if_pos c7).symm.trans hf
      refine g_lv [] rfl ?_
      exact t_M_isSheet_28  _ _ _  hf
    · replace hf := (if_neg c7).symm.trans hf
      refine g_iconst (pc := 24) (1 : Int32) dd_M_isSheet_0.2.2.2.2.2.2.2.2.2.2.2.2.1 (by decide) ?_
      refine g_goto (pc := 25) 29 dd_M_isSheet_0.2.2.2.2.2.2.2.2.2.2.2.2.2.1 (by decide) ?_
      obtain ⟨rfl, rfl⟩ := ret2 hf
      exact g_zret (pc := 29) rfl rfl dd_M_isSheet_0.2.2.2.2.2.2.2.2.2.2.2.2.2.2.2
def f_M_isSheet (a0 : Int32) (a1 : Int32) (h : mH) : Option (Int32 × mH) := f_M_isSheet_0 a0 a1 h
theorem c_M_isSheet {sc : Nat × (Nat → Int32)} {a0 : Int32} {a1 : Int32} {h : mH} {r : Int32} {h' : mH} (hf : f_M_isSheet a0 a1 h = some (r, h')) : MM sc y_M_isSheet prog_10_method_86_code 2 (some .boolean) 1 25 [.int a0, .int a1] h (some (.int r)) h' :=
  mm_of_G si_pn_M (Nat.le_of_ble_eq_true rfl) (t_M_isSheet_0 _ _ _ _ _ hf)
/-! M sheet (III)I -/
set_option maxRecDepth 100000 in
theorem dd_M_sheet_0 : (decode prog_10_method_87_code 0 = .ok (.iload_n 1, 1)) ∧ (decode prog_10_method_87_code 1 = .ok (.iload_n 2, 1)) ∧ (decode prog_10_method_87_code 2 = .ok (.invokestatic 329, 3)) ∧ (decode prog_10_method_87_code 5 = .ok (.ifCond .eq 9, 3)) ∧ (decode prog_10_method_87_code 8 = .ok (.iload_n 3, 1)) ∧ (decode prog_10_method_87_code 9 = .ok (.bipush 40, 2)) ∧ (decode prog_10_method_87_code 11 = .ok (.if_icmp .le 5, 3)) ∧ (decode prog_10_method_87_code 14 = .ok (.iconst (-1), 1)) ∧ (decode prog_10_method_87_code 15 = .ok (.ireturn, 1)) ∧ (decode prog_10_method_87_code 16 = .ok (.iload_n 3, 1)) ∧ (decode prog_10_method_87_code 17 = .ok (.ifCond .ge 6, 3)) ∧ (decode prog_10_method_87_code 20 = .ok (.bipush (-14), 2)) ∧ (decode prog_10_method_87_code 22 = .ok (.ireturn, 1)) ∧ (decode prog_10_method_87_code 23 = .ok (.aload_n 0, 1)) ∧ (decode prog_10_method_87_code 24 = .ok (.getfield 78, 3)) ∧ (decode prog_10_method_87_code 27 = .ok (.iload_n 1, 1)) ∧ (decode prog_10_method_87_code 28 = .ok (.iload_n 2, 1)) ∧ (decode prog_10_method_87_code 29 = .ok (.iastore, 1)) ∧ (decode prog_10_method_87_code 30 = .ok (.aload_n 0, 1)) ∧ (decode prog_10_method_87_code 31 = .ok (.getfield 81, 3)) ∧ (decode prog_10_method_87_code 34 = .ok (.iload_n 1, 1)) ∧ (decode prog_10_method_87_code 35 = .ok (.iload_n 3, 1)) ∧ (decode prog_10_method_87_code 36 = .ok (.iastore, 1)) ∧ (decode prog_10_method_87_code 37 = .ok (.iconst 0, 1)) := by
  have h : List.drop 0 prog_10_method_87_code.data.toList = 0x1b :: _ := rfl
  refine ⟨zq_k_n 27 h rfl (zq_o_27 _), ?_⟩
  replace h := zq_nx1 (q := 1) h rfl
  refine ⟨zq_k_n 28 h rfl (zq_o_28 _), ?_⟩
  replace h := zq_nx1 (q := 2) h rfl
  refine ⟨zq_k_u2 184 (fun z => .invokestatic z) 329 h rfl (zq_o_184 _) (by decide +kernel), ?_⟩
  replace h := zq_nx3 (q := 5) h rfl
  refine ⟨zq_k_s2 153 (fun z => .ifCond .eq z) 9 h rfl (zq_o_153 _) (by decide +kernel), ?_⟩
  replace h := zq_nx3 (q := 8) h rfl
  refine ⟨zq_k_n 29 h rfl (zq_o_29 _), ?_⟩
  replace h := zq_nx1 (q := 9) h rfl
  refine ⟨zq_k_s1 16 (fun z => .bipush z) 40 h rfl (zq_o_16 _) (by decide +kernel), ?_⟩
  replace h := zq_nx2 (q := 11) h rfl
  refine ⟨zq_k_s2 164 (fun z => .if_icmp .le z) 5 h rfl (zq_o_164 _) (by decide +kernel), ?_⟩
  replace h := zq_nx3 (q := 14) h rfl
  refine ⟨zq_k_n 2 h rfl (zq_o_2 _), ?_⟩
  replace h := zq_nx1 (q := 15) h rfl
  refine ⟨zq_k_n 172 h rfl (zq_o_172 _), ?_⟩
  replace h := zq_nx1 (q := 16) h rfl
  refine ⟨zq_k_n 29 h rfl (zq_o_29 _), ?_⟩
  replace h := zq_nx1 (q := 17) h rfl
  refine ⟨zq_k_s2 156 (fun z => .ifCond .ge z) 6 h rfl (zq_o_156 _) (by decide +kernel), ?_⟩
  replace h := zq_nx3 (q := 20) h rfl
  refine ⟨zq_k_s1 16 (fun z => .bipush z) (-14) h rfl (zq_o_16 _) (by decide +kernel), ?_⟩
  replace h := zq_nx2 (q := 22) h rfl
  refine ⟨zq_k_n 172 h rfl (zq_o_172 _), ?_⟩
  replace h := zq_nx1 (q := 23) h rfl
  refine ⟨zq_k_n 42 h rfl (zq_o_42 _), ?_⟩
  replace h := zq_nx1 (q := 24) h rfl
  refine ⟨zq_k_u2 180 (fun z => .getfield z) 78 h rfl (zq_o_180 _) (by decide +kernel), ?_⟩
  replace h := zq_nx3 (q := 27) h rfl
  refine ⟨zq_k_n 27 h rfl (zq_o_27 _), ?_⟩
  replace h := zq_nx1 (q := 28) h rfl
  refine ⟨zq_k_n 28 h rfl (zq_o_28 _), ?_⟩
  replace h := zq_nx1 (q := 29) h rfl
  refine ⟨zq_k_n 79 h rfl (zq_o_79 _), ?_⟩
  replace h := zq_nx1 (q := 30) h rfl
  refine ⟨zq_k_n 42 h rfl (zq_o_42 _), ?_⟩
  replace h := zq_nx1 (q := 31) h rfl
  refine ⟨zq_k_u2 180 (fun z => .getfield z) 81 h rfl (zq_o_180 _) (by decide +kernel), ?_⟩
  replace h := zq_nx3 (q := 34) h rfl
  refine ⟨zq_k_n 27 h rfl (zq_o_27 _), ?_⟩
  replace h := zq_nx1 (q := 35) h rfl
  refine ⟨zq_k_n 29 h rfl (zq_o_29 _), ?_⟩
  replace h := zq_nx1 (q := 36) h rfl
  refine ⟨zq_k_n 79 h rfl (zq_o_79 _), ?_⟩
  replace h := zq_nx1 (q := 37) h rfl
  exact zq_k_n 3 h rfl (zq_o_3 _)
set_option maxRecDepth 100000 in
theorem dd_M_sheet_38 : (decode prog_10_method_87_code 38 = .ok (.istore 4, 2)) ∧ (decode prog_10_method_87_code 40 = .ok (.iload 4, 2)) ∧ (decode prog_10_method_87_code 42 = .ok (.bipush 40, 2)) ∧ (decode prog_10_method_87_code 44 = .ok (.if_icmp .ge 22, 3)) ∧ (decode prog_10_method_87_code 47 = .ok (.aload_n 0, 1)) ∧ (decode prog_10_method_87_code 48 = .ok (.getfield 84, 3)) ∧ (decode prog_10_method_87_code 51 = .ok (.bipush 40, 2)) ∧ (decode prog_10_method_87_code 53 = .ok (.iload_n 1, 1)) ∧ (decode prog_10_method_87_code 54 = .ok (.imul, 1)) ∧ (decode prog_10_method_87_code 55 = .ok (.iload 4, 2)) ∧ (decode prog_10_method_87_code 57 = .ok (.iadd, 1)) ∧ (decode prog_10_method_87_code 58 = .ok (.iconst 0, 1)) ∧ (decode prog_10_method_87_code 59 = .ok (.iastore, 1)) ∧ (decode prog_10_method_87_code 60 = .ok (.iinc 4 1, 3)) ∧ (decode prog_10_method_87_code 63 = .ok (.goto (-23), 3)) ∧ (decode prog_10_method_87_code 66 = .ok (.iconst 1, 1)) ∧ (decode prog_10_method_87_code 67 = .ok (.ireturn, 1)) := by
  have h : List.drop 38 prog_10_method_87_code.data.toList = 0x36 :: _ := rfl
  refine ⟨zq_k_u1 54 (fun z => .istore z) 4 h rfl (zq_o_54 _) (by decide +kernel), ?_⟩
  replace h := zq_nx2 (q := 40) h rfl
  refine ⟨zq_k_u1 21 (fun z => .iload z) 4 h rfl (zq_o_21 _) (by decide +kernel), ?_⟩
  replace h := zq_nx2 (q := 42) h rfl
  refine ⟨zq_k_s1 16 (fun z => .bipush z) 40 h rfl (zq_o_16 _) (by decide +kernel), ?_⟩
  replace h := zq_nx2 (q := 44) h rfl
  refine ⟨zq_k_s2 162 (fun z => .if_icmp .ge z) 22 h rfl (zq_o_162 _) (by decide +kernel), ?_⟩
  replace h := zq_nx3 (q := 47) h rfl
  refine ⟨zq_k_n 42 h rfl (zq_o_42 _), ?_⟩
  replace h := zq_nx1 (q := 48) h rfl
  refine ⟨zq_k_u2 180 (fun z => .getfield z) 84 h rfl (zq_o_180 _) (by decide +kernel), ?_⟩
  replace h := zq_nx3 (q := 51) h rfl
  refine ⟨zq_k_s1 16 (fun z => .bipush z) 40 h rfl (zq_o_16 _) (by decide +kernel), ?_⟩
  replace h := zq_nx2 (q := 53) h rfl
  refine ⟨zq_k_n 27 h rfl (zq_o_27 _), ?_⟩
  replace h := zq_nx1 (q := 54) h rfl
  refine ⟨zq_k_n 104 h rfl (zq_o_104 _), ?_⟩
  replace h := zq_nx1 (q := 55) h rfl
  refine ⟨zq_k_u1 21 (fun z => .iload z) 4 h rfl (zq_o_21 _) (by decide +kernel), ?_⟩
  replace h := zq_nx2 (q := 57) h rfl
  refine ⟨zq_k_n 96 h rfl (zq_o_96 _), ?_⟩
  replace h := zq_nx1 (q := 58) h rfl
  refine ⟨zq_k_n 3 h rfl (zq_o_3 _), ?_⟩
  replace h := zq_nx1 (q := 59) h rfl
  refine ⟨zq_k_n 79 h rfl (zq_o_79 _), ?_⟩
  replace h := zq_nx1 (q := 60) h rfl
  refine ⟨zq_k_iinc 4 1 h rfl (zq_o_132 _) (by decide +kernel) (by decide +kernel), ?_⟩
  replace h := zq_nx3 (q := 63) h rfl
  refine ⟨zq_k_s2 167 (fun z => .goto z) (-23) h rfl (zq_o_167 _) (by decide +kernel), ?_⟩
  replace h := zq_nx3 (q := 66) h rfl
  refine ⟨zq_k_n 4 h rfl (zq_o_4 _), ?_⟩
  replace h := zq_nx1 (q := 67) h rfl
  exact zq_k_n 172 h rfl (zq_o_172 _)
def f_M_sheet_40b (rec40 : Nat → Int32 → Int32 → mH → Option (Int32 × mH)) (b0 : Nat) (b1 : Int32) (b4 : Int32) (h : mH) : Option (Int32 × mH) :=
  if (40 : Int32) ≤ b4 then
    some ((1 : Int32), h)
  else
    bd1 (gR h b0 8 37) fun x15 =>
    bd1 (sI h 0 x15 (((40 : Int32) * b1) + b4) (0 : Int32)) fun h17 =>
    rec40 b0 b1 (b4 + (1 : Int32)) h17
set_option maxRecDepth 20000 in
theorem t_M_sheet_40b {sc : Nat × (Nat → Int32)} (rec40 : Nat → Int32 → Int32 → mH → Option (Int32 × mH)) (hrec40 : ∀ (b0 : Nat) (b1 : Int32) (b4 : Int32) (h : mH) (r : Int32) (h' : mH), rec40 b0 b1 b4 h = some (r, h') → G sc y_M_sheet prog_10_method_87_code 5 (some .int) 2 46 40 [(0, .ref b0), (1, .int b1), (4, .int b4)] [] h (some (.int r)) h') (b0 : Nat) (b1 : Int32) (b4 : Int32) (h : mH) (r : Int32) (h' : mH) (hf : f_M_sheet_40b rec40 b0 b1 b4 h = some (r, h')) : G sc y_M_sheet prog_10_method_87_code 5 (some .int) 2 46 40 [(0, .ref b0), (1, .int b1), (4, .int b4)] [] h (some (.int r)) h' := by
  unfold f_M_sheet_40b at hf
  refine g_iload (pc := 40) 2 dd_M_sheet_38.2.1 rfl ?_
  refine g_bipush (pc := 42) (40 : Int32) dd_M_sheet_38.2.2.1 (by decide) ?_
  refine g_icmpge (pc := 44) 66 dd_M_sheet_38.2.2.2.1 (by decide) (fun c19 => ?_) (fun c19 => ?_)
  · replace hf := (if_pos c19).symm.trans hf
    refine g_iconst (pc := 66) (1 : Int32) dd_M_sheet_38.2.2.2.2.2.2.2.2.2.2.2.2.2.2.2.1 (by decide) ?_
    obtain ⟨rfl, rfl⟩ := ret2 hf
    exact g_iret (pc := 67) rfl dd_M_sheet_38.2.2.2.2.2.2.2.2.2.2.2.2.2.2.2.2
  · replace hf := (if_neg c19).symm.trans hf
    refine g_aload_n (pc := 47) 0 dd_M_sheet_38.2.2.2.2.1 rfl rfl ?_
    obtain ⟨x15, e16, hf⟩ := bd1_e hf
    refine g_get (pc := 48) (ci := 8) (kk := 37) dd_M_sheet_38.2.2.2.2.2.1 rfl in_M (by decide) wd_975 (gR_spec e16) ?_
    refine g_bipush (pc := 51) (40 : Int32) dd_M_sheet_38.2.2.2.2.2.2.1 (by decide) ?_
    refine g_iload_n (pc := 53) 1 dd_M_sheet_38.2.2.2.2.2.2.2.1 rfl rfl ?_
    refine g_imul (pc := 54) dd_M_sheet_38.2.2.2.2.2.2.2.2.1 ?_
    refine g_iload (pc := 55) 2 dd_M_sheet_38.2.2.2.2.2.2.2.2.2.1 rfl ?_
    refine g_iadd (pc := 57) dd_M_sheet_38.2.2.2.2.2.2.2.2.2.2.1 ?_
    refine g_iconst (pc := 58) (0 : Int32) dd_M_sheet_38.2.2.2.2.2.2.2.2.2.2.2.1 (by decide) ?_
    obtain ⟨h17, e18, hf⟩ := bd1_e hf
    refine g_iast (pc := 59) dd_M_sheet_38.2.2.2.2.2.2.2.2.2.2.2.2.1 e18 ?_
    refine g_iinc (pc := 60) 2 (b4 + (1 : Int32)) [(4, .int (b4 + (1 : Int32))), (0, .ref b0), (1, .int b1)] dd_M_sheet_38.2.2.2.2.2.2.2.2.2.2.2.2.2.1 rfl rfl (Nat.le_of_ble_eq_true rfl) rfl ?_
    refine g_goto (pc := 63) 40 dd_M_sheet_38.2.2.2.2.2.2.2.2.2.2.2.2.2.2.1 (by decide) ?_
    refine g_lv [1, 2, 0] rfl ?_
    exact hrec40 _ _ _ _ _ _  hf
def f_M_sheet_40  : Nat → Nat → Int32 → Int32 → mH → Option (Int32 × mH)
  | 0 => fun _ _ _ _ => none
  | n + 1 => f_M_sheet_40b  (f_M_sheet_40  n)
theorem t_M_sheet_40 {sc : Nat × (Nat → Int32)}  : ∀ (n : Nat) (b0 : Nat) (b1 : Int32) (b4 : Int32) (h : mH) (r : Int32) (h' : mH) (hf : f_M_sheet_40  n b0 b1 b4 h = some (r, h')), G sc y_M_sheet prog_10_method_87_code 5 (some .int) 2 46 40 [(0, .ref b0), (1, .int b1), (4, .int b4)] [] h (some (.int r)) h'
  | 0, _, _, _, _, _, _, hf => by cases hf
  | n + 1, _, _, _, _, _, _, hf => t_M_sheet_40b  (f_M_sheet_40  n) (t_M_sheet_40  n) _ _ _ _ _ _ hf
def f_M_sheet_14   (h : mH) : Option (Int32 × mH) :=
  some (((-1) : Int32), h)
set_option maxRecDepth 20000 in
theorem t_M_sheet_14 {sc : Nat × (Nat → Int32)}   (h : mH) (r : Int32) (h' : mH) (hf : f_M_sheet_14   h = some (r, h')) : G sc y_M_sheet prog_10_method_87_code 5 (some .int) 2 46 14 [] [] h (some (.int r)) h' := by
  unfold f_M_sheet_14 at hf
  refine g_iconst (pc := 14) ((-1) : Int32) dd_M_sheet_0.2.2.2.2.2.2.2.1 (by decide) ?_
  obtain ⟨rfl, rfl⟩ := ret2 hf
  exact g_iret (pc := 15) rfl dd_M_sheet_0.2.2.2.2.2.2.2.2.1
def f_M_sheet_0  (a0 : Nat) (a1 : Int32) (a2 : Int32) (a3 : Int32) (h : mH) : Option (Int32 × mH) :=
  bd2 (f_M_isSheet a1 a2 h) fun x3 h1 =>
  if x3 = 0 then
    f_M_sheet_14  h1
  else
    if a3 ≤ (40 : Int32) then
      if 0 ≤ a3 then
        bd1 (gR h1 a0 8 35) fun x4 =>
        bd1 (sI h1 0 x4 a1 a2) fun h6 =>
        bd1 (gR h6 a0 8 36) fun x8 =>
        bd1 (sI h6 0 x8 a1 a3) fun h10 =>
        f_M_sheet_40  FU a0 a1 (0 : Int32) h10
      else
        some (((-14) : Int32), h1)
    else
      f_M_sheet_14  h1
set_option maxRecDepth 20000 in
theorem t_M_sheet_0 {sc : Nat × (Nat → Int32)}  (a0 : Nat) (a1 : Int32) (a2 : Int32) (a3 : Int32) (h : mH) (r : Int32) (h' : mH) (hf : f_M_sheet_0  a0 a1 a2 a3 h = some (r, h')) : G sc y_M_sheet prog_10_method_87_code 5 (some .int) 2 46 0 [(0, .ref a0), (1, .int a1), (2, .int a2), (3, .int a3)] [] h (some (.int r)) h' := by
  unfold f_M_sheet_0 at hf
  refine g_iload_n (pc := 0) 1 dd_M_sheet_0.1 rfl rfl ?_
  refine g_iload_n (pc := 1) 2 dd_M_sheet_0.2.1 rfl rfl ?_
  obtain ⟨x3, h1, e2, hf⟩ := bd2_e hf
  refine g_callS (pc := 2) [.int a1, .int a2] (site_of si_M_isSheet (by decide) (by decide)) wd_1396 wd_1397 dd_M_sheet_0.2.2.1 (Nat.le_of_ble_eq_true rfl) (fun z => absurd z si_na_M_isSheet) (fun z => absurd z si_na_M_isSheet) (fun z => absurd z si_na_M_isSheet) (c_M_isSheet e2) rfl ?_
  refine g_st [.int x3] rfl ?_
  refine g_ifeq (pc := 5) 14 dd_M_sheet_0.2.2.2.1 (by decide) (fun c14 => ?_) (fun c14 => ?_)
  · replace hf := (if_pos c14).symm.trans hf
    refine g_lv [] rfl ?_
    exact t_M_sheet_14  _ _ _  hf
  · replace hf := (if_neg c14).symm.trans hf
    refine g_iload_n (pc := 8) 3 dd_M_sheet_0.2.2.2.2.1 rfl rfl ?_
    refine g_bipush (pc := 9) (40 : Int32) dd_M_sheet_0.2.2.2.2.2.1 (by decide) ?_
    refine g_icmple (pc := 11) 16 dd_M_sheet_0.2.2.2.2.2.2.1 (by decide) (fun c13 => ?_) (fun c13 => ?_)
    · replace hf := (if_pos c13).symm.trans hf
      refine g_iload_n (pc := 16) 3 dd_M_sheet_0.2.2.2.2.2.2.2.2.2.1 rfl rfl ?_
      refine g_ifge (pc := 17) 23 dd_M_sheet_0.2.2.2.2.2.2.2.2.2.2.1 (by decide) (fun c12 => ?_) (fun c12 => ?_)
      · replace hf := (if_pos c12).symm.trans hf
        refine g_aload_n (pc := 23) 0 dd_M_sheet_0.2.2.2.2.2.2.2.2.2.2.2.2.2.1 rfl rfl ?_
        obtain ⟨x4, e5, hf⟩ := bd1_e hf
        refine g_get (pc := 24) (ci := 8) (kk := 35) dd_M_sheet_0.2.2.2.2.2.2.2.2.2.2.2.2.2.2.1 rfl in_M (by decide) wd_973 (gR_spec e5) ?_
        refine g_iload_n (pc := 27) 1 dd_M_sheet_0.2.2.2.2.2.2.2.2.2.2.2.2.2.2.2.1 rfl rfl ?_
        refine g_iload_n (pc := 28) 2 dd_M_sheet_0.2.2.2.2.2.2.2.2.2.2.2.2.2.2.2.2.1 rfl rfl ?_
        obtain ⟨h6, e7, hf⟩ := bd1_e hf
        refine g_iast (pc := 29) dd_M_sheet_0.2.2.2.2.2.2.2.2.2.2.2.2.2.2.2.2.2.1 e7 ?_
        refine g_aload_n (pc := 30) 0 dd_M_sheet_0.2.2.2.2.2.2.2.2.2.2.2.2.2.2.2.2.2.2.1 rfl rfl ?_
        obtain ⟨x8, e9, hf⟩ := bd1_e hf
        refine g_get (pc := 31) (ci := 8) (kk := 36) dd_M_sheet_0.2.2.2.2.2.2.2.2.2.2.2.2.2.2.2.2.2.2.2.1 rfl in_M (by decide) wd_974 (gR_spec e9) ?_
        refine g_iload_n (pc := 34) 1 dd_M_sheet_0.2.2.2.2.2.2.2.2.2.2.2.2.2.2.2.2.2.2.2.2.1 rfl rfl ?_
        refine g_iload_n (pc := 35) 3 dd_M_sheet_0.2.2.2.2.2.2.2.2.2.2.2.2.2.2.2.2.2.2.2.2.2.1 rfl rfl ?_
        obtain ⟨h10, e11, hf⟩ := bd1_e hf
        refine g_iast (pc := 36) dd_M_sheet_0.2.2.2.2.2.2.2.2.2.2.2.2.2.2.2.2.2.2.2.2.2.2.1 e11 ?_
        refine g_iconst (pc := 37) (0 : Int32) dd_M_sheet_0.2.2.2.2.2.2.2.2.2.2.2.2.2.2.2.2.2.2.2.2.2.2.2 (by decide) ?_
        refine g_istore (pc := 38) [(4, .int (0 : Int32)), (0, .ref a0), (1, .int a1), (2, .int a2), (3, .int a3)] dd_M_sheet_38.1 (Nat.le_of_ble_eq_true rfl) rfl ?_
        refine g_lv [1, 2, 0] rfl ?_
        exact t_M_sheet_40  FU _ _ _ _ _ _  hf
      · replace hf := (if_neg c12).symm.trans hf
        refine g_bipush (pc := 20) ((-14) : Int32) dd_M_sheet_0.2.2.2.2.2.2.2.2.2.2.2.1 (by decide) ?_
        obtain ⟨rfl, rfl⟩ := ret2 hf
        exact g_iret (pc := 22) rfl dd_M_sheet_0.2.2.2.2.2.2.2.2.2.2.2.2.1
    · replace hf := (if_neg c13).symm.trans hf
      refine g_lv [] rfl ?_
      exact t_M_sheet_14  _ _ _  hf
def f_M_sheet (a0 : Nat) (a1 : Int32) (a2 : Int32) (a3 : Int32) (h : mH) : Option (Int32 × mH) := f_M_sheet_0 a0 a1 a2 a3 h
theorem c_M_sheet {sc : Nat × (Nat → Int32)} {a0 : Nat} {a1 : Int32} {a2 : Int32} {a3 : Int32} {h : mH} {r : Int32} {h' : mH} (hf : f_M_sheet a0 a1 a2 a3 h = some (r, h')) : MM sc y_M_sheet prog_10_method_87_code 5 (some .int) 2 46 [.ref a0, .int a1, .int a2, .int a3] h (some (.int r)) h' :=
  mm_of_G si_pn_M (Nat.le_of_ble_eq_true rfl) (t_M_sheet_0 _ _ _ _ _ _ _ hf)
/-! M lay (III)I -/
set_option maxRecDepth 100000 in
theorem dd_M_lay_0 : (decode prog_10_method_88_code 0 = .ok (.iload_n 1, 1)) ∧ (decode prog_10_method_88_code 1 = .ok (.iconst 0, 1)) ∧ (decode prog_10_method_88_code 2 = .ok (.invokestatic 329, 3)) ∧ (decode prog_10_method_88_code 5 = .ok (.ifCond .ne 5, 3)) ∧ (decode prog_10_method_88_code 8 = .ok (.iconst (-1), 1)) ∧ (decode prog_10_method_88_code 9 = .ok (.ireturn, 1)) ∧ (decode prog_10_method_88_code 10 = .ok (.aload_n 0, 1)) ∧ (decode prog_10_method_88_code 11 = .ok (.getfield 78, 3)) ∧ (decode prog_10_method_88_code 14 = .ok (.iload_n 1, 1)) ∧ (decode prog_10_method_88_code 15 = .ok (.iaload, 1)) ∧ (decode prog_10_method_88_code 16 = .ok (.bipush (-4), 2)) ∧ (decode prog_10_method_88_code 18 = .ok (.if_icmp .ne 6, 3)) ∧ (decode prog_10_method_88_code 21 = .ok (.bipush (-11), 2)) ∧ (decode prog_10_method_88_code 23 = .ok (.ireturn, 1)) ∧ (decode prog_10_method_88_code 24 = .ok (.iload_n 2, 1)) ∧ (decode prog_10_method_88_code 25 = .ok (.i2l, 1)) ∧ (decode prog_10_method_88_code 26 = .ok (.lconst 0, 1)) ∧ (decode prog_10_method_88_code 27 = .ok (.aload_n 0, 1)) ∧ (decode prog_10_method_88_code 28 = .ok (.getfield 81, 3)) ∧ (decode prog_10_method_88_code 31 = .ok (.iload_n 1, 1)) ∧ (decode prog_10_method_88_code 32 = .ok (.iaload, 1)) ∧ (decode prog_10_method_88_code 33 = .ok (.iconst 1, 1)) ∧ (decode prog_10_method_88_code 34 = .ok (.isub, 1)) ∧ (decode prog_10_method_88_code 35 = .ok (.i2l, 1)) := by
  have h : List.drop 0 prog_10_method_88_code.data.toList = 0x1b :: _ := rfl
  refine ⟨zq_k_n 27 h rfl (zq_o_27 _), ?_⟩
  replace h := zq_nx1 (q := 1) h rfl
  refine ⟨zq_k_n 3 h rfl (zq_o_3 _), ?_⟩
  replace h := zq_nx1 (q := 2) h rfl
  refine ⟨zq_k_u2 184 (fun z => .invokestatic z) 329 h rfl (zq_o_184 _) (by decide +kernel), ?_⟩
  replace h := zq_nx3 (q := 5) h rfl
  refine ⟨zq_k_s2 154 (fun z => .ifCond .ne z) 5 h rfl (zq_o_154 _) (by decide +kernel), ?_⟩
  replace h := zq_nx3 (q := 8) h rfl
  refine ⟨zq_k_n 2 h rfl (zq_o_2 _), ?_⟩
  replace h := zq_nx1 (q := 9) h rfl
  refine ⟨zq_k_n 172 h rfl (zq_o_172 _), ?_⟩
  replace h := zq_nx1 (q := 10) h rfl
  refine ⟨zq_k_n 42 h rfl (zq_o_42 _), ?_⟩
  replace h := zq_nx1 (q := 11) h rfl
  refine ⟨zq_k_u2 180 (fun z => .getfield z) 78 h rfl (zq_o_180 _) (by decide +kernel), ?_⟩
  replace h := zq_nx3 (q := 14) h rfl
  refine ⟨zq_k_n 27 h rfl (zq_o_27 _), ?_⟩
  replace h := zq_nx1 (q := 15) h rfl
  refine ⟨zq_k_n 46 h rfl (zq_o_46 _), ?_⟩
  replace h := zq_nx1 (q := 16) h rfl
  refine ⟨zq_k_s1 16 (fun z => .bipush z) (-4) h rfl (zq_o_16 _) (by decide +kernel), ?_⟩
  replace h := zq_nx2 (q := 18) h rfl
  refine ⟨zq_k_s2 160 (fun z => .if_icmp .ne z) 6 h rfl (zq_o_160 _) (by decide +kernel), ?_⟩
  replace h := zq_nx3 (q := 21) h rfl
  refine ⟨zq_k_s1 16 (fun z => .bipush z) (-11) h rfl (zq_o_16 _) (by decide +kernel), ?_⟩
  replace h := zq_nx2 (q := 23) h rfl
  refine ⟨zq_k_n 172 h rfl (zq_o_172 _), ?_⟩
  replace h := zq_nx1 (q := 24) h rfl
  refine ⟨zq_k_n 28 h rfl (zq_o_28 _), ?_⟩
  replace h := zq_nx1 (q := 25) h rfl
  refine ⟨zq_k_n 133 h rfl (zq_o_133 _), ?_⟩
  replace h := zq_nx1 (q := 26) h rfl
  refine ⟨zq_k_n 9 h rfl (zq_o_9 _), ?_⟩
  replace h := zq_nx1 (q := 27) h rfl
  refine ⟨zq_k_n 42 h rfl (zq_o_42 _), ?_⟩
  replace h := zq_nx1 (q := 28) h rfl
  refine ⟨zq_k_u2 180 (fun z => .getfield z) 81 h rfl (zq_o_180 _) (by decide +kernel), ?_⟩
  replace h := zq_nx3 (q := 31) h rfl
  refine ⟨zq_k_n 27 h rfl (zq_o_27 _), ?_⟩
  replace h := zq_nx1 (q := 32) h rfl
  refine ⟨zq_k_n 46 h rfl (zq_o_46 _), ?_⟩
  replace h := zq_nx1 (q := 33) h rfl
  refine ⟨zq_k_n 4 h rfl (zq_o_4 _), ?_⟩
  replace h := zq_nx1 (q := 34) h rfl
  refine ⟨zq_k_n 100 h rfl (zq_o_100 _), ?_⟩
  replace h := zq_nx1 (q := 35) h rfl
  exact zq_k_n 133 h rfl (zq_o_133 _)
set_option maxRecDepth 100000 in
theorem dd_M_lay_36 : (decode prog_10_method_88_code 36 = .ok (.invokestatic 114, 3)) ∧ (decode prog_10_method_88_code 39 = .ok (.ifCond .ne 6, 3)) ∧ (decode prog_10_method_88_code 42 = .ok (.bipush (-12), 2)) ∧ (decode prog_10_method_88_code 44 = .ok (.ireturn, 1)) ∧ (decode prog_10_method_88_code 45 = .ok (.aload_n 0, 1)) ∧ (decode prog_10_method_88_code 46 = .ok (.getfield 84, 3)) ∧ (decode prog_10_method_88_code 49 = .ok (.bipush 40, 2)) ∧ (decode prog_10_method_88_code 51 = .ok (.iload_n 1, 1)) ∧ (decode prog_10_method_88_code 52 = .ok (.imul, 1)) ∧ (decode prog_10_method_88_code 53 = .ok (.iload_n 2, 1)) ∧ (decode prog_10_method_88_code 54 = .ok (.iadd, 1)) ∧ (decode prog_10_method_88_code 55 = .ok (.aload_n 0, 1)) ∧ (decode prog_10_method_88_code 56 = .ok (.getfield 78, 3)) ∧ (decode prog_10_method_88_code 59 = .ok (.iload_n 1, 1)) ∧ (decode prog_10_method_88_code 60 = .ok (.iaload, 1)) ∧ (decode prog_10_method_88_code 61 = .ok (.ifCond .ne 8, 3)) ∧ (decode prog_10_method_88_code 64 = .ok (.iload_n 3, 1)) ∧ (decode prog_10_method_88_code 65 = .ok (.i2b, 1)) ∧ (decode prog_10_method_88_code 66 = .ok (.goto 19, 3)) ∧ (decode prog_10_method_88_code 69 = .ok (.aload_n 0, 1)) ∧ (decode prog_10_method_88_code 70 = .ok (.getfield 78, 3)) ∧ (decode prog_10_method_88_code 73 = .ok (.iload_n 1, 1)) ∧ (decode prog_10_method_88_code 74 = .ok (.iaload, 1)) ∧ (decode prog_10_method_88_code 75 = .ok (.iconst 1, 1)) := by
  have h : List.drop 36 prog_10_method_88_code.data.toList = 0xb8 :: _ := rfl
  refine ⟨zq_k_u2 184 (fun z => .invokestatic z) 114 h rfl (zq_o_184 _) (by decide +kernel), ?_⟩
  replace h := zq_nx3 (q := 39) h rfl
  refine ⟨zq_k_s2 154 (fun z => .ifCond .ne z) 6 h rfl (zq_o_154 _) (by decide +kernel), ?_⟩
  replace h := zq_nx3 (q := 42) h rfl
  refine ⟨zq_k_s1 16 (fun z => .bipush z) (-12) h rfl (zq_o_16 _) (by decide +kernel), ?_⟩
  replace h := zq_nx2 (q := 44) h rfl
  refine ⟨zq_k_n 172 h rfl (zq_o_172 _), ?_⟩
  replace h := zq_nx1 (q := 45) h rfl
  refine ⟨zq_k_n 42 h rfl (zq_o_42 _), ?_⟩
  replace h := zq_nx1 (q := 46) h rfl
  refine ⟨zq_k_u2 180 (fun z => .getfield z) 84 h rfl (zq_o_180 _) (by decide +kernel), ?_⟩
  replace h := zq_nx3 (q := 49) h rfl
  refine ⟨zq_k_s1 16 (fun z => .bipush z) 40 h rfl (zq_o_16 _) (by decide +kernel), ?_⟩
  replace h := zq_nx2 (q := 51) h rfl
  refine ⟨zq_k_n 27 h rfl (zq_o_27 _), ?_⟩
  replace h := zq_nx1 (q := 52) h rfl
  refine ⟨zq_k_n 104 h rfl (zq_o_104 _), ?_⟩
  replace h := zq_nx1 (q := 53) h rfl
  refine ⟨zq_k_n 28 h rfl (zq_o_28 _), ?_⟩
  replace h := zq_nx1 (q := 54) h rfl
  refine ⟨zq_k_n 96 h rfl (zq_o_96 _), ?_⟩
  replace h := zq_nx1 (q := 55) h rfl
  refine ⟨zq_k_n 42 h rfl (zq_o_42 _), ?_⟩
  replace h := zq_nx1 (q := 56) h rfl
  refine ⟨zq_k_u2 180 (fun z => .getfield z) 78 h rfl (zq_o_180 _) (by decide +kernel), ?_⟩
  replace h := zq_nx3 (q := 59) h rfl
  refine ⟨zq_k_n 27 h rfl (zq_o_27 _), ?_⟩
  replace h := zq_nx1 (q := 60) h rfl
  refine ⟨zq_k_n 46 h rfl (zq_o_46 _), ?_⟩
  replace h := zq_nx1 (q := 61) h rfl
  refine ⟨zq_k_s2 154 (fun z => .ifCond .ne z) 8 h rfl (zq_o_154 _) (by decide +kernel), ?_⟩
  replace h := zq_nx3 (q := 64) h rfl
  refine ⟨zq_k_n 29 h rfl (zq_o_29 _), ?_⟩
  replace h := zq_nx1 (q := 65) h rfl
  refine ⟨zq_k_n 145 h rfl (zq_o_145 _), ?_⟩
  replace h := zq_nx1 (q := 66) h rfl
  refine ⟨zq_k_s2 167 (fun z => .goto z) 19 h rfl (zq_o_167 _) (by decide +kernel), ?_⟩
  replace h := zq_nx3 (q := 69) h rfl
  refine ⟨zq_k_n 42 h rfl (zq_o_42 _), ?_⟩
  replace h := zq_nx1 (q := 70) h rfl
  refine ⟨zq_k_u2 180 (fun z => .getfield z) 78 h rfl (zq_o_180 _) (by decide +kernel), ?_⟩
  replace h := zq_nx3 (q := 73) h rfl
  refine ⟨zq_k_n 27 h rfl (zq_o_27 _), ?_⟩
  replace h := zq_nx1 (q := 74) h rfl
  refine ⟨zq_k_n 46 h rfl (zq_o_46 _), ?_⟩
  replace h := zq_nx1 (q := 75) h rfl
  exact zq_k_n 4 h rfl (zq_o_4 _)
set_option maxRecDepth 100000 in
theorem dd_M_lay_76 : (decode prog_10_method_88_code 76 = .ok (.if_icmp .ne 8, 3)) ∧ (decode prog_10_method_88_code 79 = .ok (.iload_n 3, 1)) ∧ (decode prog_10_method_88_code 80 = .ok (.i2s, 1)) ∧ (decode prog_10_method_88_code 81 = .ok (.goto 4, 3)) ∧ (decode prog_10_method_88_code 84 = .ok (.iload_n 3, 1)) ∧ (decode prog_10_method_88_code 85 = .ok (.iastore, 1)) ∧ (decode prog_10_method_88_code 86 = .ok (.iconst 1, 1)) ∧ (decode prog_10_method_88_code 87 = .ok (.ireturn, 1)) := by
  have h : List.drop 76 prog_10_method_88_code.data.toList = 0xa0 :: _ := rfl
  refine ⟨zq_k_s2 160 (fun z => .if_icmp .ne z) 8 h rfl (zq_o_160 _) (by decide +kernel), ?_⟩
  replace h := zq_nx3 (q := 79) h rfl
  refine ⟨zq_k_n 29 h rfl (zq_o_29 _), ?_⟩
  replace h := zq_nx1 (q := 80) h rfl
  refine ⟨zq_k_n 147 h rfl (zq_o_147 _), ?_⟩
  replace h := zq_nx1 (q := 81) h rfl
  refine ⟨zq_k_s2 167 (fun z => .goto z) 4 h rfl (zq_o_167 _) (by decide +kernel), ?_⟩
  replace h := zq_nx3 (q := 84) h rfl
  refine ⟨zq_k_n 29 h rfl (zq_o_29 _), ?_⟩
  replace h := zq_nx1 (q := 85) h rfl
  refine ⟨zq_k_n 79 h rfl (zq_o_79 _), ?_⟩
  replace h := zq_nx1 (q := 86) h rfl
  refine ⟨zq_k_n 4 h rfl (zq_o_4 _), ?_⟩
  replace h := zq_nx1 (q := 87) h rfl
  exact zq_k_n 172 h rfl (zq_o_172 _)
def f_M_lay_85  (s0 : Nat) (s1 : Int32) (s2 : Int32) (h : mH) : Option (Int32 × mH) :=
  bd1 (sI h 0 s0 s1 s2) fun h30 =>
  some ((1 : Int32), h30)
set_option maxRecDepth 20000 in
theorem t_M_lay_85 {sc : Nat × (Nat → Int32)}  (s0 : Nat) (s1 : Int32) (s2 : Int32) (h : mH) (r : Int32) (h' : mH) (hf : f_M_lay_85  s0 s1 s2 h = some (r, h')) : G sc y_M_lay prog_10_method_88_code 4 (some .int) 2 46 85 [] [.int s2, .int s1, .ref s0] h (some (.int r)) h' := by
  unfold f_M_lay_85 at hf
  obtain ⟨h30, e31, hf⟩ := bd1_e hf
  refine g_iast (pc := 85) dd_M_lay_76.2.2.2.2.2.1 e31 ?_
  refine g_iconst (pc := 86) (1 : Int32) dd_M_lay_76.2.2.2.2.2.2.1 (by decide) ?_
  obtain ⟨rfl, rfl⟩ := ret2 hf
  exact g_iret (pc := 87) rfl dd_M_lay_76.2.2.2.2.2.2.2
def f_M_lay_0  (a0 : Nat) (a1 : Int32) (a2 : Int32) (a3 : Int32) (h : mH) : Option (Int32 × mH) :=
  bd2 (f_M_isSheet a1 (0 : Int32) h) fun x3 h1 =>
  if x3 = 0 then
    some (((-1) : Int32), h1)
  else
    bd1 (gR h1 a0 8 35) fun x4 =>
    bd1 (aI h1 0 x4 a1) fun x6 =>
    if x6 = ((-4) : Int32) then
      some (((-11) : Int32), h1)
    else
      bd1 (gR h1 a0 8 36) fun x8 =>
      bd1 (aI h1 0 x8 a1) fun x10 =>
      bd2 (f_M_in a2.toInt64 (0 : Int64) ((x10 - (1 : Int32)).toInt64) h1) fun x14 h12 =>
      if x14 = 0 then
        some (((-12) : Int32), h12)
      else
        bd1 (gR h12 a0 8 37) fun x15 =>
        bd1 (gR h12 a0 8 35) fun x17 =>
        bd1 (aI h12 0 x17 a1) fun x19 =>
        if x19 = 0 then
          f_M_lay_85  x15 (((40 : Int32) * a1) + a2) a3.toInt8.toInt32 h12
        else
          bd1 (gR h12 a0 8 35) fun x21 =>
          bd1 (aI h12 0 x21 a1) fun x23 =>
          if x23 = (1 : Int32) then
            f_M_lay_85  x15 (((40 : Int32) * a1) + a2) a3.toInt16.toInt32 h12
          else
            f_M_lay_85  x15 (((40 : Int32) * a1) + a2) a3 h12
set_option maxRecDepth 20000 in
theorem t_M_lay_0 {sc : Nat × (Nat → Int32)}  (a0 : Nat) (a1 : Int32) (a2 : Int32) (a3 : Int32) (h : mH) (r : Int32) (h' : mH) (hf : f_M_lay_0  a0 a1 a2 a3 h = some (r, h')) : G sc y_M_lay prog_10_method_88_code 4 (some .int) 2 46 0 [(0, .ref a0), (1, .int a1), (2, .int a2), (3, .int a3)] [] h (some (.int r)) h' := by
  unfold f_M_lay_0 at hf
  refine g_iload_n (pc := 0) 1 dd_M_lay_0.1 rfl rfl ?_
  refine g_iconst (pc := 1) (0 : Int32) dd_M_lay_0.2.1 (by decide) ?_
  obtain ⟨x3, h1, e2, hf⟩ := bd2_e hf
  refine g_callS (pc := 2) [.int a1, .int (0 : Int32)] (site_of si_M_isSheet (by decide) (by decide)) wd_1396 wd_1397 dd_M_lay_0.2.2.1 (Nat.le_of_ble_eq_true rfl) (fun z => absurd z si_na_M_isSheet) (fun z => absurd z si_na_M_isSheet) (fun z => absurd z si_na_M_isSheet) (c_M_isSheet e2) rfl ?_
  refine g_st [.int x3] rfl ?_
  refine g_ifne (pc := 5) 10 dd_M_lay_0.2.2.2.1 (by decide) (fun c29 => ?_) (fun c29 => ?_)
  · replace hf := (if_neg c29).symm.trans hf
    refine g_aload_n (pc := 10) 0 dd_M_lay_0.2.2.2.2.2.2.1 rfl rfl ?_
    obtain ⟨x4, e5, hf⟩ := bd1_e hf
    refine g_get (pc := 11) (ci := 8) (kk := 35) dd_M_lay_0.2.2.2.2.2.2.2.1 rfl in_M (by decide) wd_973 (gR_spec e5) ?_
    refine g_iload_n (pc := 14) 1 dd_M_lay_0.2.2.2.2.2.2.2.2.1 rfl rfl ?_
    obtain ⟨x6, e7, hf⟩ := bd1_e hf
    refine g_iald (pc := 15) dd_M_lay_0.2.2.2.2.2.2.2.2.2.1 e7 ?_
    refine g_bipush (pc := 16) ((-4) : Int32) dd_M_lay_0.2.2.2.2.2.2.2.2.2.2.1 (by decide) ?_
    refine g_icmpne (pc := 18) 24 dd_M_lay_0.2.2.2.2.2.2.2.2.2.2.2.1 (by decide) (fun c28 => ?_) (fun c28 => ?_)
    · replace hf := (if_neg c28).symm.trans hf
      refine g_iload_n (pc := 24) 2 dd_M_lay_0.2.2.2.2.2.2.2.2.2.2.2.2.2.2.1 rfl rfl ?_
      refine g_i2l (pc := 25) dd_M_lay_0.2.2.2.2.2.2.2.2.2.2.2.2.2.2.2.1 ?_
      refine g_lconst (pc := 26) (0 : Int64) dd_M_lay_0.2.2.2.2.2.2.2.2.2.2.2.2.2.2.2.2.1 (by decide) ?_
      refine g_aload_n (pc := 27) 0 dd_M_lay_0.2.2.2.2.2.2.2.2.2.2.2.2.2.2.2.2.2.1 rfl rfl ?_
      obtain ⟨x8, e9, hf⟩ := bd1_e hf
      refine g_get (pc := 28) (ci := 8) (kk := 36) dd_M_lay_0.2.2.2.2.2.2.2.2.2.2.2.2.2.2.2.2.2.2.1 rfl in_M (by decide) wd_974 (gR_spec e9) ?_
      refine g_iload_n (pc := 31) 1 dd_M_lay_0.2.2.2.2.2.2.2.2.2.2.2.2.2.2.2.2.2.2.2.1 rfl rfl ?_
      obtain ⟨x10, e11, hf⟩ := bd1_e hf
      refine g_iald (pc := 32) dd_M_lay_0.2.2.2.2.2.2.2.2.2.2.2.2.2.2.2.2.2.2.2.2.1 e11 ?_
      refine g_iconst (pc := 33) (1 : Int32) dd_M_lay_0.2.2.2.2.2.2.2.2.2.2.2.2.2.2.2.2.2.2.2.2.2.1 (by decide) ?_
      refine g_isub (pc := 34) dd_M_lay_0.2.2.2.2.2.2.2.2.2.2.2.2.2.2.2.2.2.2.2.2.2.2.1 ?_
      refine g_i2l (pc := 35) dd_M_lay_0.2.2.2.2.2.2.2.2.2.2.2.2.2.2.2.2.2.2.2.2.2.2.2 ?_
      obtain ⟨x14, h12, e13, hf⟩ := bd2_e hf
      refine g_callS (pc := 36) [.long a2.toInt64, .long (0 : Int64), .long ((x10 - (1 : Int32)).toInt64)] (site_of si_M_in (by decide) (by decide)) wd_1061 wd_1062 dd_M_lay_36.1 (Nat.le_of_ble_eq_true rfl) (fun z => absurd z si_na_M_in) (fun z => absurd z si_na_M_in) (fun z => absurd z si_na_M_in) (c_M_in e13) rfl ?_
      refine g_st [.int x14] rfl ?_
      refine g_ifne (pc := 39) 45 dd_M_lay_36.2.1 (by decide) (fun c27 => ?_) (fun c27 => ?_)
      · replace hf := (if_neg c27).symm.trans hf
        refine g_aload_n (pc := 45) 0 dd_M_lay_36.2.2.2.2.1 rfl rfl ?_
        obtain ⟨x15, e16, hf⟩ := bd1_e hf
        refine g_get (pc := 46) (ci := 8) (kk := 37) dd_M_lay_36.2.2.2.2.2.1 rfl in_M (by decide) wd_975 (gR_spec e16) ?_
        refine g_bipush (pc := 49) (40 : Int32) dd_M_lay_36.2.2.2.2.2.2.1 (by decide) ?_
        refine g_iload_n (pc := 51) 1 dd_M_lay_36.2.2.2.2.2.2.2.1 rfl rfl ?_
        refine g_imul (pc := 52) dd_M_lay_36.2.2.2.2.2.2.2.2.1 ?_
        refine g_iload_n (pc := 53) 2 dd_M_lay_36.2.2.2.2.2.2.2.2.2.1 rfl rfl ?_
        refine g_iadd (pc := 54) dd_M_lay_36.2.2.2.2.2.2.2.2.2.2.1 ?_
        refine g_aload_n (pc := 55) 0 dd_M_lay_36.2.2.2.2.2.2.2.2.2.2.2.1 rfl rfl ?_
        obtain ⟨x17, e18, hf⟩ := bd1_e hf
        refine g_get (pc := 56) (ci := 8) (kk := 35) dd_M_lay_36.2.2.2.2.2.2.2.2.2.2.2.2.1 rfl in_M (by decide) wd_973 (gR_spec e18) ?_
        refine g_iload_n (pc := 59) 1 dd_M_lay_36.2.2.2.2.2.2.2.2.2.2.2.2.2.1 rfl rfl ?_
        obtain ⟨x19, e20, hf⟩ := bd1_e hf
        refine g_iald (pc := 60) dd_M_lay_36.2.2.2.2.2.2.2.2.2.2.2.2.2.2.1 e20 ?_
        refine g_ifne (pc := 61) 69 dd_M_lay_36.2.2.2.2.2.2.2.2.2.2.2.2.2.2.2.1 (by decide) (fun c26 => ?_) (fun c26 => ?_)
        · replace hf := (if_neg c26).symm.trans hf
          refine g_aload_n (pc := 69) 0 dd_M_lay_36.2.2.2.2.2.2.2.2.2.2.2.2.2.2.2.2.2.2.2.1 rfl rfl ?_
          obtain ⟨x21, e22, hf⟩ := bd1_e hf
          refine g_get (pc := 70) (ci := 8) (kk := 35) dd_M_lay_36.2.2.2.2.2.2.2.2.2.2.2.2.2.2.2.2.2.2.2.2.1 rfl in_M (by decide) wd_973 (gR_spec e22) ?_
          refine g_iload_n (pc := 73) 1 dd_M_lay_36.2.2.2.2.2.2.2.2.2.2.2.2.2.2.2.2.2.2.2.2.2.1 rfl rfl ?_
          obtain ⟨x23, e24, hf⟩ := bd1_e hf
          refine g_iald (pc := 74) dd_M_lay_36.2.2.2.2.2.2.2.2.2.2.2.2.2.2.2.2.2.2.2.2.2.2.1 e24 ?_
          refine g_iconst (pc := 75) (1 : Int32) dd_M_lay_36.2.2.2.2.2.2.2.2.2.2.2.2.2.2.2.2.2.2.2.2.2.2.2 (by decide) ?_
          refine g_icmpne (pc := 76) 84 dd_M_lay_76.1 (by decide) (fun c25 => ?_) (fun c25 => ?_)
          · replace hf := (if_neg c25).symm.trans hf
            refine g_iload_n (pc := 84) 3 dd_M_lay_76.2.2.2.2.1 rfl rfl ?_
            refine g_lv [] rfl ?_
            exact t_M_lay_85  _ _ _ _ _ _  hf
          · replace hf := (if_pos c25).symm.trans hf
            refine g_iload_n (pc := 79) 3 dd_M_lay_76.2.1 rfl rfl ?_
            refine g_i2s (pc := 80) dd_M_lay_76.2.2.1 ?_
            refine g_goto (pc := 81) 85 dd_M_lay_76.2.2.2.1 (by decide) ?_
            refine g_lv [] rfl ?_
            exact t_M_lay_85  _ _ _ _ _ _  hf
        · replace hf := (if_pos c26).symm.trans hf
          refine g_iload_n (pc := 64) 3 dd_M_lay_36.2.2.2.2.2.2.2.2.2.2.2.2.2.2.2.2.1 rfl rfl ?_
          refine g_i2b (pc := 65) dd_M_lay_36.2.2.2.2.2.2.2.2.2.2.2.2.2.2.2.2.2.1 ?_
          refine g_goto (pc := 66) 85 dd_M_lay_36.2.2.2.2.2.2.2.2.2.2.2.2.2.2.2.2.2.2.1 (by decide) ?_
          refine g_lv [] rfl ?_
          exact t_M_lay_85  _ _ _ _ _ _  hf
      · replace hf := (if_pos c27).symm.trans hf
        refine g_bipush (pc := 42) ((-12) : Int32) dd_M_lay_36.2.2.1 (by decide) ?_
        obtain ⟨rfl, rfl⟩ := ret2 hf
        exact g_iret (pc := 44) rfl dd_M_lay_36.2.2.2.1
    · replace hf := (if_pos c28).symm.trans hf
      refine g_bipush (pc := 21) ((-11) : Int32) dd_M_lay_0.2.2.2.2.2.2.2.2.2.2.2.2.1 (by decide) ?_
      obtain ⟨rfl, rfl⟩ := ret2 hf
      exact g_iret (pc := 23) rfl dd_M_lay_0.2.2.2.2.2.2.2.2.2.2.2.2.2.1
  · replace hf := (if_pos c29).symm.trans hf
    refine g_iconst (pc := 8) ((-1) : Int32) dd_M_lay_0.2.2.2.2.1 (by decide) ?_
    obtain ⟨rfl, rfl⟩ := ret2 hf
    exact g_iret (pc := 9) rfl dd_M_lay_0.2.2.2.2.2.1
def f_M_lay (a0 : Nat) (a1 : Int32) (a2 : Int32) (a3 : Int32) (h : mH) : Option (Int32 × mH) := f_M_lay_0 a0 a1 a2 a3 h
theorem c_M_lay {sc : Nat × (Nat → Int32)} {a0 : Nat} {a1 : Int32} {a2 : Int32} {a3 : Int32} {h : mH} {r : Int32} {h' : mH} (hf : f_M_lay a0 a1 a2 a3 h = some (r, h')) : MM sc y_M_lay prog_10_method_88_code 4 (some .int) 2 46 [.ref a0, .int a1, .int a2, .int a3] h (some (.int r)) h' :=
  mm_of_G si_pn_M (Nat.le_of_ble_eq_true rfl) (t_M_lay_0 _ _ _ _ _ _ _ hf)
/-! M read (IIII)I -/
set_option maxRecDepth 100000 in
theorem dd_M_read_0 : (decode prog_10_method_89_code 0 = .ok (.iload_n 1, 1)) ∧ (decode prog_10_method_89_code 1 = .ok (.iload_n 2, 1)) ∧ (decode prog_10_method_89_code 2 = .ok (.invokestatic 329, 3)) ∧ (decode prog_10_method_89_code 5 = .ok (.ifCond .eq 16, 3)) ∧ (decode prog_10_method_89_code 8 = .ok (.iload 4, 2)) ∧ (decode prog_10_method_89_code 10 = .ok (.i2l, 1)) ∧ (decode prog_10_method_89_code 11 = .ok (.lconst 0, 1)) ∧ (decode prog_10_method_89_code 12 = .ok (.ldc2_w 292, 3)) ∧ (decode prog_10_method_89_code 15 = .ok (.invokestatic 114, 3)) ∧ (decode prog_10_method_89_code 18 = .ok (.ifCond .ne 5, 3)) ∧ (decode prog_10_method_89_code 21 = .ok (.iconst (-1), 1)) ∧ (decode prog_10_method_89_code 22 = .ok (.ireturn, 1)) ∧ (decode prog_10_method_89_code 23 = .ok (.aload_n 0, 1)) ∧ (decode prog_10_method_89_code 24 = .ok (.invokevirtual 275, 3)) ∧ (decode prog_10_method_89_code 27 = .ok (.iconst 0, 1)) ∧ (decode prog_10_method_89_code 28 = .ok (.istore 5, 2)) ∧ (decode prog_10_method_89_code 30 = .ok (.iconst 0, 1)) ∧ (decode prog_10_method_89_code 31 = .ok (.istore 6, 2)) ∧ (decode prog_10_method_89_code 33 = .ok (.iconst 0, 1)) ∧ (decode prog_10_method_89_code 34 = .ok (.istore 7, 2)) ∧ (decode prog_10_method_89_code 36 = .ok (.iload 7, 2)) ∧ (decode prog_10_method_89_code 38 = .ok (.iload 4, 2)) ∧ (decode prog_10_method_89_code 40 = .ok (.if_icmp .ge 158, 3)) ∧ (decode prog_10_method_89_code 43 = .ok (.iload 5, 2)) := by
  have h : List.drop 0 prog_10_method_89_code.data.toList = 0x1b :: _ := rfl
  refine ⟨zq_k_n 27 h rfl (zq_o_27 _), ?_⟩
  replace h := zq_nx1 (q := 1) h rfl
  refine ⟨zq_k_n 28 h rfl (zq_o_28 _), ?_⟩
  replace h := zq_nx1 (q := 2) h rfl
  refine ⟨zq_k_u2 184 (fun z => .invokestatic z) 329 h rfl (zq_o_184 _) (by decide +kernel), ?_⟩
  replace h := zq_nx3 (q := 5) h rfl
  refine ⟨zq_k_s2 153 (fun z => .ifCond .eq z) 16 h rfl (zq_o_153 _) (by decide +kernel), ?_⟩
  replace h := zq_nx3 (q := 8) h rfl
  refine ⟨zq_k_u1 21 (fun z => .iload z) 4 h rfl (zq_o_21 _) (by decide +kernel), ?_⟩
  replace h := zq_nx2 (q := 10) h rfl
  refine ⟨zq_k_n 133 h rfl (zq_o_133 _), ?_⟩
  replace h := zq_nx1 (q := 11) h rfl
  refine ⟨zq_k_n 9 h rfl (zq_o_9 _), ?_⟩
  replace h := zq_nx1 (q := 12) h rfl
  refine ⟨zq_k_u2 20 (fun z => .ldc2_w z) 292 h rfl (zq_o_20 _) (by decide +kernel), ?_⟩
  replace h := zq_nx3 (q := 15) h rfl
  refine ⟨zq_k_u2 184 (fun z => .invokestatic z) 114 h rfl (zq_o_184 _) (by decide +kernel), ?_⟩
  replace h := zq_nx3 (q := 18) h rfl
  refine ⟨zq_k_s2 154 (fun z => .ifCond .ne z) 5 h rfl (zq_o_154 _) (by decide +kernel), ?_⟩
  replace h := zq_nx3 (q := 21) h rfl
  refine ⟨zq_k_n 2 h rfl (zq_o_2 _), ?_⟩
  replace h := zq_nx1 (q := 22) h rfl
  refine ⟨zq_k_n 172 h rfl (zq_o_172 _), ?_⟩
  replace h := zq_nx1 (q := 23) h rfl
  refine ⟨zq_k_n 42 h rfl (zq_o_42 _), ?_⟩
  replace h := zq_nx1 (q := 24) h rfl
  refine ⟨zq_k_u2 182 (fun z => .invokevirtual z) 275 h rfl (zq_o_182 _) (by decide +kernel), ?_⟩
  replace h := zq_nx3 (q := 27) h rfl
  refine ⟨zq_k_n 3 h rfl (zq_o_3 _), ?_⟩
  replace h := zq_nx1 (q := 28) h rfl
  refine ⟨zq_k_u1 54 (fun z => .istore z) 5 h rfl (zq_o_54 _) (by decide +kernel), ?_⟩
  replace h := zq_nx2 (q := 30) h rfl
  refine ⟨zq_k_n 3 h rfl (zq_o_3 _), ?_⟩
  replace h := zq_nx1 (q := 31) h rfl
  refine ⟨zq_k_u1 54 (fun z => .istore z) 6 h rfl (zq_o_54 _) (by decide +kernel), ?_⟩
  replace h := zq_nx2 (q := 33) h rfl
  refine ⟨zq_k_n 3 h rfl (zq_o_3 _), ?_⟩
  replace h := zq_nx1 (q := 34) h rfl
  refine ⟨zq_k_u1 54 (fun z => .istore z) 7 h rfl (zq_o_54 _) (by decide +kernel), ?_⟩
  replace h := zq_nx2 (q := 36) h rfl
  refine ⟨zq_k_u1 21 (fun z => .iload z) 7 h rfl (zq_o_21 _) (by decide +kernel), ?_⟩
  replace h := zq_nx2 (q := 38) h rfl
  refine ⟨zq_k_u1 21 (fun z => .iload z) 4 h rfl (zq_o_21 _) (by decide +kernel), ?_⟩
  replace h := zq_nx2 (q := 40) h rfl
  refine ⟨zq_k_s2 162 (fun z => .if_icmp .ge z) 158 h rfl (zq_o_162 _) (by decide +kernel), ?_⟩
  replace h := zq_nx3 (q := 43) h rfl
  exact zq_k_u1 21 (fun z => .iload z) 5 h rfl (zq_o_21 _) (by decide +kernel)
set_option maxRecDepth 100000 in
theorem dd_M_read_45 : (decode prog_10_method_89_code 45 = .ok (.ifCond .ne 153, 3)) ∧ (decode prog_10_method_89_code 48 = .ok (.iconst 0, 1)) ∧ (decode prog_10_method_89_code 49 = .ok (.istore 8, 2)) ∧ (decode prog_10_method_89_code 51 = .ok (.iload 8, 2)) ∧ (decode prog_10_method_89_code 53 = .ok (.iconst 2, 1)) ∧ (decode prog_10_method_89_code 54 = .ok (.if_icmp .ge 84, 3)) ∧ (decode prog_10_method_89_code 57 = .ok (.iload 5, 2)) ∧ (decode prog_10_method_89_code 59 = .ok (.ifCond .ne 79, 3)) ∧ (decode prog_10_method_89_code 62 = .ok (.iload_n 3, 1)) ∧ (decode prog_10_method_89_code 63 = .ok (.i2l, 1)) ∧ (decode prog_10_method_89_code 64 = .ok (.iconst 2, 1)) ∧ (decode prog_10_method_89_code 65 = .ok (.iload 7, 2)) ∧ (decode prog_10_method_89_code 67 = .ok (.imul, 1)) ∧ (decode prog_10_method_89_code 68 = .ok (.i2l, 1)) ∧ (decode prog_10_method_89_code 69 = .ok (.ladd, 1)) ∧ (decode prog_10_method_89_code 70 = .ok (.iload 8, 2)) ∧ (decode prog_10_method_89_code 72 = .ok (.i2l, 1)) ∧ (decode prog_10_method_89_code 73 = .ok (.ladd, 1)) ∧ (decode prog_10_method_89_code 74 = .ok (.lstore 9, 2)) ∧ (decode prog_10_method_89_code 76 = .ok (.aload_n 0, 1)) ∧ (decode prog_10_method_89_code 77 = .ok (.getfield 78, 3)) ∧ (decode prog_10_method_89_code 80 = .ok (.iload_n 1, 1)) ∧ (decode prog_10_method_89_code 81 = .ok (.iaload, 1)) ∧ (decode prog_10_method_89_code 82 = .ok (.bipush (-4), 2)) := by
  have h : List.drop 45 prog_10_method_89_code.data.toList = 0x9a :: _ := rfl
  refine ⟨zq_k_s2 154 (fun z => .ifCond .ne z) 153 h rfl (zq_o_154 _) (by decide +kernel), ?_⟩
  replace h := zq_nx3 (q := 48) h rfl
  refine ⟨zq_k_n 3 h rfl (zq_o_3 _), ?_⟩
  replace h := zq_nx1 (q := 49) h rfl
  refine ⟨zq_k_u1 54 (fun z => .istore z) 8 h rfl (zq_o_54 _) (by decide +kernel), ?_⟩
  replace h := zq_nx2 (q := 51) h rfl
  refine ⟨zq_k_u1 21 (fun z => .iload z) 8 h rfl (zq_o_21 _) (by decide +kernel), ?_⟩
  replace h := zq_nx2 (q := 53) h rfl
  refine ⟨zq_k_n 5 h rfl (zq_o_5 _), ?_⟩
  replace h := zq_nx1 (q := 54) h rfl
  refine ⟨zq_k_s2 162 (fun z => .if_icmp .ge z) 84 h rfl (zq_o_162 _) (by decide +kernel), ?_⟩
  replace h := zq_nx3 (q := 57) h rfl
  refine ⟨zq_k_u1 21 (fun z => .iload z) 5 h rfl (zq_o_21 _) (by decide +kernel), ?_⟩
  replace h := zq_nx2 (q := 59) h rfl
  refine ⟨zq_k_s2 154 (fun z => .ifCond .ne z) 79 h rfl (zq_o_154 _) (by decide +kernel), ?_⟩
  replace h := zq_nx3 (q := 62) h rfl
  refine ⟨zq_k_n 29 h rfl (zq_o_29 _), ?_⟩
  replace h := zq_nx1 (q := 63) h rfl
  refine ⟨zq_k_n 133 h rfl (zq_o_133 _), ?_⟩
  replace h := zq_nx1 (q := 64) h rfl
  refine ⟨zq_k_n 5 h rfl (zq_o_5 _), ?_⟩
  replace h := zq_nx1 (q := 65) h rfl
  refine ⟨zq_k_u1 21 (fun z => .iload z) 7 h rfl (zq_o_21 _) (by decide +kernel), ?_⟩
  replace h := zq_nx2 (q := 67) h rfl
  refine ⟨zq_k_n 104 h rfl (zq_o_104 _), ?_⟩
  replace h := zq_nx1 (q := 68) h rfl
  refine ⟨zq_k_n 133 h rfl (zq_o_133 _), ?_⟩
  replace h := zq_nx1 (q := 69) h rfl
  refine ⟨zq_k_n 97 h rfl (zq_o_97 _), ?_⟩
  replace h := zq_nx1 (q := 70) h rfl
  refine ⟨zq_k_u1 21 (fun z => .iload z) 8 h rfl (zq_o_21 _) (by decide +kernel), ?_⟩
  replace h := zq_nx2 (q := 72) h rfl
  refine ⟨zq_k_n 133 h rfl (zq_o_133 _), ?_⟩
  replace h := zq_nx1 (q := 73) h rfl
  refine ⟨zq_k_n 97 h rfl (zq_o_97 _), ?_⟩
  replace h := zq_nx1 (q := 74) h rfl
  refine ⟨zq_k_u1 55 (fun z => .lstore z) 9 h rfl (zq_o_55 _) (by decide +kernel), ?_⟩
  replace h := zq_nx2 (q := 76) h rfl
  refine ⟨zq_k_n 42 h rfl (zq_o_42 _), ?_⟩
  replace h := zq_nx1 (q := 77) h rfl
  refine ⟨zq_k_u2 180 (fun z => .getfield z) 78 h rfl (zq_o_180 _) (by decide +kernel), ?_⟩
  replace h := zq_nx3 (q := 80) h rfl
  refine ⟨zq_k_n 27 h rfl (zq_o_27 _), ?_⟩
  replace h := zq_nx1 (q := 81) h rfl
  refine ⟨zq_k_n 46 h rfl (zq_o_46 _), ?_⟩
  replace h := zq_nx1 (q := 82) h rfl
  exact zq_k_s1 16 (fun z => .bipush z) (-4) h rfl (zq_o_16 _) (by decide +kernel)
set_option maxRecDepth 100000 in
theorem dd_M_read_84 : (decode prog_10_method_89_code 84 = .ok (.if_icmp .ne 7, 3)) ∧ (decode prog_10_method_89_code 87 = .ok (.iconst 1, 1)) ∧ (decode prog_10_method_89_code 88 = .ok (.goto 42, 3)) ∧ (decode prog_10_method_89_code 91 = .ok (.aload_n 0, 1)) ∧ (decode prog_10_method_89_code 92 = .ok (.getfield 78, 3)) ∧ (decode prog_10_method_89_code 95 = .ok (.iload_n 1, 1)) ∧ (decode prog_10_method_89_code 96 = .ok (.iaload, 1)) ∧ (decode prog_10_method_89_code 97 = .ok (.iload_n 2, 1)) ∧ (decode prog_10_method_89_code 98 = .ok (.if_icmp .eq 7, 3)) ∧ (decode prog_10_method_89_code 101 = .ok (.iconst 3, 1)) ∧ (decode prog_10_method_89_code 102 = .ok (.goto 28, 3)) ∧ (decode prog_10_method_89_code 105 = .ok (.lload 9, 2)) ∧ (decode prog_10_method_89_code 107 = .ok (.lconst 0, 1)) ∧ (decode prog_10_method_89_code 108 = .ok (.lcmp, 1)) ∧ (decode prog_10_method_89_code 109 = .ok (.ifCond .lt 16, 3)) ∧ (decode prog_10_method_89_code 112 = .ok (.lload 9, 2)) ∧ (decode prog_10_method_89_code 114 = .ok (.aload_n 0, 1)) ∧ (decode prog_10_method_89_code 115 = .ok (.getfield 81, 3)) ∧ (decode prog_10_method_89_code 118 = .ok (.iload_n 1, 1)) ∧ (decode prog_10_method_89_code 119 = .ok (.iaload, 1)) ∧ (decode prog_10_method_89_code 120 = .ok (.i2l, 1)) ∧ (decode prog_10_method_89_code 121 = .ok (.lcmp, 1)) ∧ (decode prog_10_method_89_code 122 = .ok (.ifCond .lt 7, 3)) ∧ (decode prog_10_method_89_code 125 = .ok (.iconst 2, 1)) := by
  have h : List.drop 84 prog_10_method_89_code.data.toList = 0xa0 :: _ := rfl
  refine ⟨zq_k_s2 160 (fun z => .if_icmp .ne z) 7 h rfl (zq_o_160 _) (by decide +kernel), ?_⟩
  replace h := zq_nx3 (q := 87) h rfl
  refine ⟨zq_k_n 4 h rfl (zq_o_4 _), ?_⟩
  replace h := zq_nx1 (q := 88) h rfl
  refine ⟨zq_k_s2 167 (fun z => .goto z) 42 h rfl (zq_o_167 _) (by decide +kernel), ?_⟩
  replace h := zq_nx3 (q := 91) h rfl
  refine ⟨zq_k_n 42 h rfl (zq_o_42 _), ?_⟩
  replace h := zq_nx1 (q := 92) h rfl
  refine ⟨zq_k_u2 180 (fun z => .getfield z) 78 h rfl (zq_o_180 _) (by decide +kernel), ?_⟩
  replace h := zq_nx3 (q := 95) h rfl
  refine ⟨zq_k_n 27 h rfl (zq_o_27 _), ?_⟩
  replace h := zq_nx1 (q := 96) h rfl
  refine ⟨zq_k_n 46 h rfl (zq_o_46 _), ?_⟩
  replace h := zq_nx1 (q := 97) h rfl
  refine ⟨zq_k_n 28 h rfl (zq_o_28 _), ?_⟩
  replace h := zq_nx1 (q := 98) h rfl
  refine ⟨zq_k_s2 159 (fun z => .if_icmp .eq z) 7 h rfl (zq_o_159 _) (by decide +kernel), ?_⟩
  replace h := zq_nx3 (q := 101) h rfl
  refine ⟨zq_k_n 6 h rfl (zq_o_6 _), ?_⟩
  replace h := zq_nx1 (q := 102) h rfl
  refine ⟨zq_k_s2 167 (fun z => .goto z) 28 h rfl (zq_o_167 _) (by decide +kernel), ?_⟩
  replace h := zq_nx3 (q := 105) h rfl
  refine ⟨zq_k_u1 22 (fun z => .lload z) 9 h rfl (zq_o_22 _) (by decide +kernel), ?_⟩
  replace h := zq_nx2 (q := 107) h rfl
  refine ⟨zq_k_n 9 h rfl (zq_o_9 _), ?_⟩
  replace h := zq_nx1 (q := 108) h rfl
  refine ⟨zq_k_n 148 h rfl (zq_o_148 _), ?_⟩
  replace h := zq_nx1 (q := 109) h rfl
  refine ⟨zq_k_s2 155 (fun z => .ifCond .lt z) 16 h rfl (zq_o_155 _) (by decide +kernel), ?_⟩
  replace h := zq_nx3 (q := 112) h rfl
  refine ⟨zq_k_u1 22 (fun z => .lload z) 9 h rfl (zq_o_22 _) (by decide +kernel), ?_⟩
  replace h := zq_nx2 (q := 114) h rfl
  refine ⟨zq_k_n 42 h rfl (zq_o_42 _), ?_⟩
  replace h := zq_nx1 (q := 115) h rfl
  refine ⟨zq_k_u2 180 (fun z => .getfield z) 81 h rfl (zq_o_180 _) (by decide +kernel), ?_⟩
  replace h := zq_nx3 (q := 118) h rfl
  refine ⟨zq_k_n 27 h rfl (zq_o_27 _), ?_⟩
  replace h := zq_nx1 (q := 119) h rfl
  refine ⟨zq_k_n 46 h rfl (zq_o_46 _), ?_⟩
  replace h := zq_nx1 (q := 120) h rfl
  refine ⟨zq_k_n 133 h rfl (zq_o_133 _), ?_⟩
  replace h := zq_nx1 (q := 121) h rfl
  refine ⟨zq_k_n 148 h rfl (zq_o_148 _), ?_⟩
  replace h := zq_nx1 (q := 122) h rfl
  refine ⟨zq_k_s2 155 (fun z => .ifCond .lt z) 7 h rfl (zq_o_155 _) (by decide +kernel), ?_⟩
  replace h := zq_nx3 (q := 125) h rfl
  exact zq_k_n 5 h rfl (zq_o_5 _)
set_option maxRecDepth 100000 in
theorem dd_M_read_126 : (decode prog_10_method_89_code 126 = .ok (.goto 4, 3)) ∧ (decode prog_10_method_89_code 129 = .ok (.iconst 0, 1)) ∧ (decode prog_10_method_89_code 130 = .ok (.istore 5, 2)) ∧ (decode prog_10_method_89_code 132 = .ok (.iinc 8 1, 3)) ∧ (decode prog_10_method_89_code 135 = .ok (.goto (-84), 3)) ∧ (decode prog_10_method_89_code 138 = .ok (.iload 5, 2)) ∧ (decode prog_10_method_89_code 140 = .ok (.ifCond .ne 52, 3)) ∧ (decode prog_10_method_89_code 143 = .ok (.bipush 40, 2)) ∧ (decode prog_10_method_89_code 145 = .ok (.iload_n 1, 1)) ∧ (decode prog_10_method_89_code 146 = .ok (.imul, 1)) ∧ (decode prog_10_method_89_code 147 = .ok (.iload_n 3, 1)) ∧ (decode prog_10_method_89_code 148 = .ok (.iadd, 1)) ∧ (decode prog_10_method_89_code 149 = .ok (.iconst 2, 1)) ∧ (decode prog_10_method_89_code 150 = .ok (.iload 7, 2)) ∧ (decode prog_10_method_89_code 152 = .ok (.imul, 1)) ∧ (decode prog_10_method_89_code 153 = .ok (.iadd, 1)) ∧ (decode prog_10_method_89_code 154 = .ok (.istore 8, 2)) ∧ (decode prog_10_method_89_code 156 = .ok (.aload_n 0, 1)) ∧ (decode prog_10_method_89_code 157 = .ok (.aload_n 0, 1)) ∧ (decode prog_10_method_89_code 158 = .ok (.getfield 84, 3)) ∧ (decode prog_10_method_89_code 161 = .ok (.iload 8, 2)) ∧ (decode prog_10_method_89_code 163 = .ok (.iaload, 1)) ∧ (decode prog_10_method_89_code 164 = .ok (.aload_n 0, 1)) ∧ (decode prog_10_method_89_code 165 = .ok (.getfield 84, 3)) := by
  have h : List.drop 126 prog_10_method_89_code.data.toList = 0xa7 :: _ := rfl
  refine ⟨zq_k_s2 167 (fun z => .goto z) 4 h rfl (zq_o_167 _) (by decide +kernel), ?_⟩
  replace h := zq_nx3 (q := 129) h rfl
  refine ⟨zq_k_n 3 h rfl (zq_o_3 _), ?_⟩
  replace h := zq_nx1 (q := 130) h rfl
  refine ⟨zq_k_u1 54 (fun z => .istore z) 5 h rfl (zq_o_54 _) (by decide +kernel), ?_⟩
  replace h := zq_nx2 (q := 132) h rfl
  refine ⟨zq_k_iinc 8 1 h rfl (zq_o_132 _) (by decide +kernel) (by decide +kernel), ?_⟩
  replace h := zq_nx3 (q := 135) h rfl
  refine ⟨zq_k_s2 167 (fun z => .goto z) (-84) h rfl (zq_o_167 _) (by decide +kernel), ?_⟩
  replace h := zq_nx3 (q := 138) h rfl
  refine ⟨zq_k_u1 21 (fun z => .iload z) 5 h rfl (zq_o_21 _) (by decide +kernel), ?_⟩
  replace h := zq_nx2 (q := 140) h rfl
  refine ⟨zq_k_s2 154 (fun z => .ifCond .ne z) 52 h rfl (zq_o_154 _) (by decide +kernel), ?_⟩
  replace h := zq_nx3 (q := 143) h rfl
  refine ⟨zq_k_s1 16 (fun z => .bipush z) 40 h rfl (zq_o_16 _) (by decide +kernel), ?_⟩
  replace h := zq_nx2 (q := 145) h rfl
  refine ⟨zq_k_n 27 h rfl (zq_o_27 _), ?_⟩
  replace h := zq_nx1 (q := 146) h rfl
  refine ⟨zq_k_n 104 h rfl (zq_o_104 _), ?_⟩
  replace h := zq_nx1 (q := 147) h rfl
  refine ⟨zq_k_n 29 h rfl (zq_o_29 _), ?_⟩
  replace h := zq_nx1 (q := 148) h rfl
  refine ⟨zq_k_n 96 h rfl (zq_o_96 _), ?_⟩
  replace h := zq_nx1 (q := 149) h rfl
  refine ⟨zq_k_n 5 h rfl (zq_o_5 _), ?_⟩
  replace h := zq_nx1 (q := 150) h rfl
  refine ⟨zq_k_u1 21 (fun z => .iload z) 7 h rfl (zq_o_21 _) (by decide +kernel), ?_⟩
  replace h := zq_nx2 (q := 152) h rfl
  refine ⟨zq_k_n 104 h rfl (zq_o_104 _), ?_⟩
  replace h := zq_nx1 (q := 153) h rfl
  refine ⟨zq_k_n 96 h rfl (zq_o_96 _), ?_⟩
  replace h := zq_nx1 (q := 154) h rfl
  refine ⟨zq_k_u1 54 (fun z => .istore z) 8 h rfl (zq_o_54 _) (by decide +kernel), ?_⟩
  replace h := zq_nx2 (q := 156) h rfl
  refine ⟨zq_k_n 42 h rfl (zq_o_42 _), ?_⟩
  replace h := zq_nx1 (q := 157) h rfl
  refine ⟨zq_k_n 42 h rfl (zq_o_42 _), ?_⟩
  replace h := zq_nx1 (q := 158) h rfl
  refine ⟨zq_k_u2 180 (fun z => .getfield z) 84 h rfl (zq_o_180 _) (by decide +kernel), ?_⟩
  replace h := zq_nx3 (q := 161) h rfl
  refine ⟨zq_k_u1 21 (fun z => .iload z) 8 h rfl (zq_o_21 _) (by decide +kernel), ?_⟩
  replace h := zq_nx2 (q := 163) h rfl
  refine ⟨zq_k_n 46 h rfl (zq_o_46 _), ?_⟩
  replace h := zq_nx1 (q := 164) h rfl
  refine ⟨zq_k_n 42 h rfl (zq_o_42 _), ?_⟩
  replace h := zq_nx1 (q := 165) h rfl
  exact zq_k_u2 180 (fun z => .getfield z) 84 h rfl (zq_o_180 _) (by decide +kernel)
set_option maxRecDepth 100000 in
theorem dd_M_read_168 : (decode prog_10_method_89_code 168 = .ok (.iload 8, 2)) ∧ (decode prog_10_method_89_code 170 = .ok (.iconst 1, 1)) ∧ (decode prog_10_method_89_code 171 = .ok (.iadd, 1)) ∧ (decode prog_10_method_89_code 172 = .ok (.iaload, 1)) ∧ (decode prog_10_method_89_code 173 = .ok (.invokevirtual 322, 3)) ∧ (decode prog_10_method_89_code 176 = .ok (.ifCond .ge 13, 3)) ∧ (decode prog_10_method_89_code 179 = .ok (.aload_n 0, 1)) ∧ (decode prog_10_method_89_code 180 = .ok (.invokevirtual 281, 3)) ∧ (decode prog_10_method_89_code 183 = .ok (.bipush (-20), 2)) ∧ (decode prog_10_method_89_code 185 = .ok (.iload 7, 2)) ∧ (decode prog_10_method_89_code 187 = .ok (.isub, 1)) ∧ (decode prog_10_method_89_code 188 = .ok (.ireturn, 1)) ∧ (decode prog_10_method_89_code 189 = .ok (.iinc 6 1, 3)) ∧ (decode prog_10_method_89_code 192 = .ok (.iinc 7 1, 3)) ∧ (decode prog_10_method_89_code 195 = .ok (.goto (-159), 3)) ∧ (decode prog_10_method_89_code 198 = .ok (.aload_n 0, 1)) ∧ (decode prog_10_method_89_code 199 = .ok (.iload 5, 2)) ∧ (decode prog_10_method_89_code 201 = .ok (.putfield 332, 3)) ∧ (decode prog_10_method_89_code 204 = .ok (.iload 6, 2)) ∧ (decode prog_10_method_89_code 206 = .ok (.ireturn, 1)) := by
  have h : List.drop 168 prog_10_method_89_code.data.toList = 0x15 :: _ := rfl
  refine ⟨zq_k_u1 21 (fun z => .iload z) 8 h rfl (zq_o_21 _) (by decide +kernel), ?_⟩
  replace h := zq_nx2 (q := 170) h rfl
  refine ⟨zq_k_n 4 h rfl (zq_o_4 _), ?_⟩
  replace h := zq_nx1 (q := 171) h rfl
  refine ⟨zq_k_n 96 h rfl (zq_o_96 _), ?_⟩
  replace h := zq_nx1 (q := 172) h rfl
  refine ⟨zq_k_n 46 h rfl (zq_o_46 _), ?_⟩
  replace h := zq_nx1 (q := 173) h rfl
  refine ⟨zq_k_u2 182 (fun z => .invokevirtual z) 322 h rfl (zq_o_182 _) (by decide +kernel), ?_⟩
  replace h := zq_nx3 (q := 176) h rfl
  refine ⟨zq_k_s2 156 (fun z => .ifCond .ge z) 13 h rfl (zq_o_156 _) (by decide +kernel), ?_⟩
  replace h := zq_nx3 (q := 179) h rfl
  refine ⟨zq_k_n 42 h rfl (zq_o_42 _), ?_⟩
  replace h := zq_nx1 (q := 180) h rfl
  refine ⟨zq_k_u2 182 (fun z => .invokevirtual z) 281 h rfl (zq_o_182 _) (by decide +kernel), ?_⟩
  replace h := zq_nx3 (q := 183) h rfl
  refine ⟨zq_k_s1 16 (fun z => .bipush z) (-20) h rfl (zq_o_16 _) (by decide +kernel), ?_⟩
  replace h := zq_nx2 (q := 185) h rfl
  refine ⟨zq_k_u1 21 (fun z => .iload z) 7 h rfl (zq_o_21 _) (by decide +kernel), ?_⟩
  replace h := zq_nx2 (q := 187) h rfl
  refine ⟨zq_k_n 100 h rfl (zq_o_100 _), ?_⟩
  replace h := zq_nx1 (q := 188) h rfl
  refine ⟨zq_k_n 172 h rfl (zq_o_172 _), ?_⟩
  replace h := zq_nx1 (q := 189) h rfl
  refine ⟨zq_k_iinc 6 1 h rfl (zq_o_132 _) (by decide +kernel) (by decide +kernel), ?_⟩
  replace h := zq_nx3 (q := 192) h rfl
  refine ⟨zq_k_iinc 7 1 h rfl (zq_o_132 _) (by decide +kernel) (by decide +kernel), ?_⟩
  replace h := zq_nx3 (q := 195) h rfl
  refine ⟨zq_k_s2 167 (fun z => .goto z) (-159) h rfl (zq_o_167 _) (by decide +kernel), ?_⟩
  replace h := zq_nx3 (q := 198) h rfl
  refine ⟨zq_k_n 42 h rfl (zq_o_42 _), ?_⟩
  replace h := zq_nx1 (q := 199) h rfl
  refine ⟨zq_k_u1 21 (fun z => .iload z) 5 h rfl (zq_o_21 _) (by decide +kernel), ?_⟩
  replace h := zq_nx2 (q := 201) h rfl
  refine ⟨zq_k_u2 181 (fun z => .putfield z) 332 h rfl (zq_o_181 _) (by decide +kernel), ?_⟩
  replace h := zq_nx3 (q := 204) h rfl
  refine ⟨zq_k_u1 21 (fun z => .iload z) 6 h rfl (zq_o_21 _) (by decide +kernel), ?_⟩
  replace h := zq_nx2 (q := 206) h rfl
  exact zq_k_n 172 h rfl (zq_o_172 _)
def f_M_read_198  (b0 : Nat) (b5 : Int32) (b6 : Int32) (h : mH) : Option (Int32 × mH) :=
  bd1 (pV h b0 8 38 (.int b5)) fun h52 =>
  some (b6, h52)
set_option maxRecDepth 20000 in
theorem t_M_read_198 {sc : Nat × (Nat → Int32)}  (b0 : Nat) (b5 : Int32) (b6 : Int32) (h : mH) (r : Int32) (h' : mH) (hf : f_M_read_198  b0 b5 b6 h = some (r, h')) : G sc y_M_read prog_10_method_89_code 11 (some .int) 5 113 198 [(0, .ref b0), (5, .int b5), (6, .int b6)] [] h (some (.int r)) h' := by
  unfold f_M_read_198 at hf
  refine g_aload_n (pc := 198) 0 dd_M_read_168.2.2.2.2.2.2.2.2.2.2.2.2.2.2.2.1 rfl rfl ?_
  refine g_iload (pc := 199) 1 dd_M_read_168.2.2.2.2.2.2.2.2.2.2.2.2.2.2.2.2.1 rfl ?_
  obtain ⟨h52, e53, hf⟩ := bd1_e hf
  refine g_put (pc := 201) (ci := 8) (kk := 38) ty_M tyok_M nm_M dd_M_read_168.2.2.2.2.2.2.2.2.2.2.2.2.2.2.2.2.2.1 rfl in_M (by decide) wd_976 rfl (fun _ => rfl) (fun _ => rfl) (fun _ z => by cases z) e53 ?_
  refine g_iload (pc := 204) 2 dd_M_read_168.2.2.2.2.2.2.2.2.2.2.2.2.2.2.2.2.2.2.1 rfl ?_
  obtain ⟨rfl, rfl⟩ := ret2 hf
  exact g_iret (pc := 206) rfl dd_M_read_168.2.2.2.2.2.2.2.2.2.2.2.2.2.2.2.2.2.2.2
def f_M_read_192 (rec36 : Nat → Int32 → Int32 → Int32 → Int32 → Int32 → Int32 → Int32 → mH → Option (Int32 × mH)) (b0 : Nat) (b1 : Int32) (b2 : Int32) (b3 : Int32) (b4 : Int32) (b5 : Int32) (b6 : Int32) (b7 : Int32) (h : mH) : Option (Int32 × mH) :=
  rec36 b0 b1 b2 b3 b4 b5 b6 (b7 + (1 : Int32)) h
set_option maxRecDepth 20000 in
theorem t_M_read_192 {sc : Nat × (Nat → Int32)} (rec36 : Nat → Int32 → Int32 → Int32 → Int32 → Int32 → Int32 → Int32 → mH → Option (Int32 × mH)) (hrec36 : ∀ (b0 : Nat) (b1 : Int32) (b2 : Int32) (b3 : Int32) (b4 : Int32) (b5 : Int32) (b6 : Int32) (b7 : Int32) (h : mH) (r : Int32) (h' : mH), rec36 b0 b1 b2 b3 b4 b5 b6 b7 h = some (r, h') → G sc y_M_read prog_10_method_89_code 11 (some .int) 5 113 36 [(0, .ref b0), (1, .int b1), (2, .int b2), (3, .int b3), (4, .int b4), (5, .int b5), (6, .int b6), (7, .int b7)] [] h (some (.int r)) h') (b0 : Nat) (b1 : Int32) (b2 : Int32) (b3 : Int32) (b4 : Int32) (b5 : Int32) (b6 : Int32) (b7 : Int32) (h : mH) (r : Int32) (h' : mH) (hf : f_M_read_192 rec36 b0 b1 b2 b3 b4 b5 b6 b7 h = some (r, h')) : G sc y_M_read prog_10_method_89_code 11 (some .int) 5 113 192 [(0, .ref b0), (1, .int b1), (2, .int b2), (3, .int b3), (4, .int b4), (5, .int b5), (6, .int b6), (7, .int b7)] [] h (some (.int r)) h' := by
  unfold f_M_read_192 at hf
  refine g_iinc (pc := 192) 7 (b7 + (1 : Int32)) [(7, .int (b7 + (1 : Int32))), (0, .ref b0), (1, .int b1), (2, .int b2), (3, .int b3), (4, .int b4), (5, .int b5), (6, .int b6)] dd_M_read_168.2.2.2.2.2.2.2.2.2.2.2.2.2.1 rfl rfl (Nat.le_of_ble_eq_true rfl) rfl ?_
  refine g_goto (pc := 195) 36 dd_M_read_168.2.2.2.2.2.2.2.2.2.2.2.2.2.2.1 (by decide) ?_
  refine g_lv [1, 2, 3, 4, 5, 6, 7, 0] rfl ?_
  exact hrec36 _ _ _ _ _ _ _ _ _ _ _  hf
def f_M_read_138 (rec36 : Nat → Int32 → Int32 → Int32 → Int32 → Int32 → Int32 → Int32 → mH → Option (Int32 × mH)) (b0 : Nat) (b1 : Int32) (b2 : Int32) (b3 : Int32) (b4 : Int32) (b5 : Int32) (b6 : Int32) (b7 : Int32) (h : mH) : Option (Int32 × mH) :=
  if b5 = 0 then
    bd1 (gR h b0 8 37) fun x33 =>
    bd1 (aI h 0 x33 ((((40 : Int32) * b1) + b3) + ((2 : Int32) * b7))) fun x35 =>
    bd1 (gR h b0 8 37) fun x37 =>
    bd1 (aI h 0 x37 (((((40 : Int32) * b1) + b3) + ((2 : Int32) * b7)) + (1 : Int32))) fun x39 =>
    bd1 (kC h b0 8) fun _ =>
    bd2 (f_M_breaks b0 x35 x39 h) fun x45 h43 =>
    if 0 ≤ x45 then
      f_M_read_192 rec36 b0 b1 b2 b3 b4 b5 (b6 + (1 : Int32)) b7 h43
    else
      bd1 (kC h43 b0 8) fun _ =>
      bd1 (f_M_returns b0 h43) fun h48 =>
      some (((-20) : Int32) - b7, h48)
  else
    f_M_read_192 rec36 b0 b1 b2 b3 b4 b5 b6 b7 h
set_option maxRecDepth 20000 in
theorem t_M_read_138 {sc : Nat × (Nat → Int32)} (rec36 : Nat → Int32 → Int32 → Int32 → Int32 → Int32 → Int32 → Int32 → mH → Option (Int32 × mH)) (hrec36 : ∀ (b0 : Nat) (b1 : Int32) (b2 : Int32) (b3 : Int32) (b4 : Int32) (b5 : Int32) (b6 : Int32) (b7 : Int32) (h : mH) (r : Int32) (h' : mH), rec36 b0 b1 b2 b3 b4 b5 b6 b7 h = some (r, h') → G sc y_M_read prog_10_method_89_code 11 (some .int) 5 113 36 [(0, .ref b0), (1, .int b1), (2, .int b2), (3, .int b3), (4, .int b4), (5, .int b5), (6, .int b6), (7, .int b7)] [] h (some (.int r)) h') (b0 : Nat) (b1 : Int32) (b2 : Int32) (b3 : Int32) (b4 : Int32) (b5 : Int32) (b6 : Int32) (b7 : Int32) (h : mH) (r : Int32) (h' : mH) (hf : f_M_read_138 rec36 b0 b1 b2 b3 b4 b5 b6 b7 h = some (r, h')) : G sc y_M_read prog_10_method_89_code 11 (some .int) 5 113 138 [(0, .ref b0), (1, .int b1), (2, .int b2), (3, .int b3), (4, .int b4), (5, .int b5), (6, .int b6), (7, .int b7)] [] h (some (.int r)) h' := by
  unfold f_M_read_138 at hf
  refine g_iload (pc := 138) 5 dd_M_read_126.2.2.2.2.2.1 rfl ?_
  refine g_ifne (pc := 140) 192 dd_M_read_126.2.2.2.2.2.2.1 (by decide) (fun c51 => ?_) (fun c51 => ?_)
  · replace hf := (if_neg c51).symm.trans hf
    refine g_lv [0, 1, 2, 3, 4, 5, 6, 7] rfl ?_
    exact t_M_read_192 rec36 hrec36 _ _ _ _ _ _ _ _ _ _ _  hf
  · replace hf := (if_pos c51).symm.trans hf
    refine g_bipush (pc := 143) (40 : Int32) dd_M_read_126.2.2.2.2.2.2.2.1 (by decide) ?_
    refine g_iload_n (pc := 145) 1 dd_M_read_126.2.2.2.2.2.2.2.2.1 rfl rfl ?_
    refine g_imul (pc := 146) dd_M_read_126.2.2.2.2.2.2.2.2.2.1 ?_
    refine g_iload_n (pc := 147) 3 dd_M_read_126.2.2.2.2.2.2.2.2.2.2.1 rfl rfl ?_
    refine g_iadd (pc := 148) dd_M_read_126.2.2.2.2.2.2.2.2.2.2.2.1 ?_
    refine g_iconst (pc := 149) (2 : Int32) dd_M_read_126.2.2.2.2.2.2.2.2.2.2.2.2.1 (by decide) ?_
    refine g_iload (pc := 150) 7 dd_M_read_126.2.2.2.2.2.2.2.2.2.2.2.2.2.1 rfl ?_
    refine g_imul (pc := 152) dd_M_read_126.2.2.2.2.2.2.2.2.2.2.2.2.2.2.1 ?_
    refine g_iadd (pc := 153) dd_M_read_126.2.2.2.2.2.2.2.2.2.2.2.2.2.2.2.1 ?_
    refine g_istore (pc := 154) [(8, .int ((((40 : Int32) * b1) + b3) + ((2 : Int32) * b7))), (0, .ref b0), (1, .int b1), (2, .int b2), (3, .int b3), (4, .int b4), (5, .int b5), (6, .int b6), (7, .int b7)] dd_M_read_126.2.2.2.2.2.2.2.2.2.2.2.2.2.2.2.2.1 (Nat.le_of_ble_eq_true rfl) rfl ?_
    refine g_aload_n (pc := 156) 1 dd_M_read_126.2.2.2.2.2.2.2.2.2.2.2.2.2.2.2.2.2.1 rfl rfl ?_
    refine g_aload_n (pc := 157) 1 dd_M_read_126.2.2.2.2.2.2.2.2.2.2.2.2.2.2.2.2.2.2.1 rfl rfl ?_
    obtain ⟨x33, e34, hf⟩ := bd1_e hf
    refine g_get (pc := 158) (ci := 8) (kk := 37) dd_M_read_126.2.2.2.2.2.2.2.2.2.2.2.2.2.2.2.2.2.2.2.1 rfl in_M (by decide) wd_975 (gR_spec e34) ?_
    refine g_iload (pc := 161) 0 dd_M_read_126.2.2.2.2.2.2.2.2.2.2.2.2.2.2.2.2.2.2.2.2.1 rfl ?_
    obtain ⟨x35, e36, hf⟩ := bd1_e hf
    refine g_iald (pc := 163) dd_M_read_126.2.2.2.2.2.2.2.2.2.2.2.2.2.2.2.2.2.2.2.2.2.1 e36 ?_
    refine g_aload_n (pc := 164) 1 dd_M_read_126.2.2.2.2.2.2.2.2.2.2.2.2.2.2.2.2.2.2.2.2.2.2.1 rfl rfl ?_
    obtain ⟨x37, e38, hf⟩ := bd1_e hf
    refine g_get (pc := 165) (ci := 8) (kk := 37) dd_M_read_126.2.2.2.2.2.2.2.2.2.2.2.2.2.2.2.2.2.2.2.2.2.2.2 rfl in_M (by decide) wd_975 (gR_spec e38) ?_
    refine g_iload (pc := 168) 0 dd_M_read_168.1 rfl ?_
    refine g_iconst (pc := 170) (1 : Int32) dd_M_read_168.2.1 (by decide) ?_
    refine g_iadd (pc := 171) dd_M_read_168.2.2.1 ?_
    obtain ⟨x39, e40, hf⟩ := bd1_e hf
    refine g_iald (pc := 172) dd_M_read_168.2.2.2.1 e40 ?_
    obtain ⟨u42, e41, hf⟩ := bd1_e hf
    obtain ⟨x45, h43, e44, hf⟩ := bd2_e hf
    refine g_callV (pc := 173) (ci := 8) [.int x35, .int x39] (site_of si_M_breaks (by decide) (by decide)) wd_1379 wd_1234 wd_1235 dd_M_read_168.2.2.2.2.1 rfl e41 (Nat.le_of_ble_eq_true rfl) (fun z => absurd z si_na_M_breaks) (fun z => absurd z si_na_M_breaks) (fun z => absurd z si_na_M_breaks) (c_M_breaks e44) rfl ?_
    refine g_st [.int x45] rfl ?_
    refine g_ifge (pc := 176) 189 dd_M_read_168.2.2.2.2.2.1 (by decide) (fun c50 => ?_) (fun c50 => ?_)
    · replace hf := (if_pos c50).symm.trans hf
      refine g_iinc (pc := 189) 7 (b6 + (1 : Int32)) [(6, .int (b6 + (1 : Int32))), (8, .int ((((40 : Int32) * b1) + b3) + ((2 : Int32) * b7))), (0, .ref b0), (1, .int b1), (2, .int b2), (3, .int b3), (4, .int b4), (5, .int b5), (7, .int b7)] dd_M_read_168.2.2.2.2.2.2.2.2.2.2.2.2.1 rfl rfl (Nat.le_of_ble_eq_true rfl) rfl ?_
      refine g_lv [2, 3, 4, 5, 6, 7, 0, 8] rfl ?_
      exact t_M_read_192 rec36 hrec36 _ _ _ _ _ _ _ _ _ _ _  hf
    · replace hf := (if_neg c50).symm.trans hf
      refine g_aload_n (pc := 179) 1 dd_M_read_168.2.2.2.2.2.2.1 rfl rfl ?_
      obtain ⟨u47, e46, hf⟩ := bd1_e hf
      obtain ⟨h48, e49, hf⟩ := bd1_e hf
      refine g_callV (pc := 180) (ci := 8) [] (site_of si_M_returns (by decide) (by decide)) wd_1315 wd_1317 wp_66 dd_M_read_168.2.2.2.2.2.2.2.1 rfl e46 (Nat.le_of_ble_eq_true rfl) (fun z => absurd z si_na_M_returns) (fun z => absurd z si_na_M_returns) (fun z => absurd z si_na_M_returns) (c_M_returns e49) rfl ?_
      refine g_st [] rfl ?_
      refine g_bipush (pc := 183) ((-20) : Int32) dd_M_read_168.2.2.2.2.2.2.2.2.1 (by decide) ?_
      refine g_iload (pc := 185) 8 dd_M_read_168.2.2.2.2.2.2.2.2.2.1 rfl ?_
      refine g_isub (pc := 187) dd_M_read_168.2.2.2.2.2.2.2.2.2.2.1 ?_
      obtain ⟨rfl, rfl⟩ := ret2 hf
      exact g_iret (pc := 188) rfl dd_M_read_168.2.2.2.2.2.2.2.2.2.2.2.1
def f_M_read_130 (rec36 : Nat → Int32 → Int32 → Int32 → Int32 → Int32 → Int32 → Int32 → mH → Option (Int32 × mH)) (rec51 : Nat → Int32 → Int32 → Int32 → Int32 → Int32 → Int32 → Int32 → Int32 → mH → Option (Int32 × mH)) (b0 : Nat) (b1 : Int32) (b2 : Int32) (b3 : Int32) (b4 : Int32) (b6 : Int32) (b7 : Int32) (b8 : Int32) (s0 : Int32) (h : mH) : Option (Int32 × mH) :=
  rec51 b0 b1 b2 b3 b4 s0 b6 b7 (b8 + (1 : Int32)) h
set_option maxRecDepth 20000 in
theorem t_M_read_130 {sc : Nat × (Nat → Int32)} (rec36 : Nat → Int32 → Int32 → Int32 → Int32 → Int32 → Int32 → Int32 → mH → Option (Int32 × mH)) (hrec36 : ∀ (b0 : Nat) (b1 : Int32) (b2 : Int32) (b3 : Int32) (b4 : Int32) (b5 : Int32) (b6 : Int32) (b7 : Int32) (h : mH) (r : Int32) (h' : mH), rec36 b0 b1 b2 b3 b4 b5 b6 b7 h = some (r, h') → G sc y_M_read prog_10_method_89_code 11 (some .int) 5 113 36 [(0, .ref b0), (1, .int b1), (2, .int b2), (3, .int b3), (4, .int b4), (5, .int b5), (6, .int b6), (7, .int b7)] [] h (some (.int r)) h') (rec51 : Nat → Int32 → Int32 → Int32 → Int32 → Int32 → Int32 → Int32 → Int32 → mH → Option (Int32 × mH)) (hrec51 : ∀ (b0 : Nat) (b1 : Int32) (b2 : Int32) (b3 : Int32) (b4 : Int32) (b5 : Int32) (b6 : Int32) (b7 : Int32) (b8 : Int32) (h : mH) (r : Int32) (h' : mH), rec51 b0 b1 b2 b3 b4 b5 b6 b7 b8 h = some (r, h') → G sc y_M_read prog_10_method_89_code 11 (some .int) 5 113 51 [(0, .ref b0), (1, .int b1), (2, .int b2), (3, .int b3), (4, .int b4), (5, .int b5), (6, .int b6), (7, .int b7), (8, .int b8)] [] h (some (.int r)) h') (b0 : Nat) (b1 : Int32) (b2 : Int32) (b3 : Int32) (b4 : Int32) (b6 : Int32) (b7 : Int32) (b8 : Int32) (s0 : Int32) (h : mH) (r : Int32) (h' : mH) (hf : f_M_read_130 rec36 rec51 b0 b1 b2 b3 b4 b6 b7 b8 s0 h = some (r, h')) : G sc y_M_read prog_10_method_89_code 11 (some .int) 5 113 130 [(0, .ref b0), (1, .int b1), (2, .int b2), (3, .int b3), (4, .int b4), (6, .int b6), (7, .int b7), (8, .int b8)] [.int s0] h (some (.int r)) h' := by
  unfold f_M_read_130 at hf
  refine g_istore (pc := 130) [(5, .int s0), (0, .ref b0), (1, .int b1), (2, .int b2), (3, .int b3), (4, .int b4), (6, .int b6), (7, .int b7), (8, .int b8)] dd_M_read_126.2.2.1 (Nat.le_of_ble_eq_true rfl) rfl ?_
  refine g_iinc (pc := 132) 8 (b8 + (1 : Int32)) [(8, .int (b8 + (1 : Int32))), (5, .int s0), (0, .ref b0), (1, .int b1), (2, .int b2), (3, .int b3), (4, .int b4), (6, .int b6), (7, .int b7)] dd_M_read_126.2.2.2.1 rfl rfl (Nat.le_of_ble_eq_true rfl) rfl ?_
  refine g_goto (pc := 135) 51 dd_M_read_126.2.2.2.2.1 (by decide) ?_
  refine g_lv [2, 3, 4, 5, 6, 1, 7, 8, 0] rfl ?_
  exact hrec51 _ _ _ _ _ _ _ _ _ _ _ _  hf
def f_M_read_125 (rec36 : Nat → Int32 → Int32 → Int32 → Int32 → Int32 → Int32 → Int32 → mH → Option (Int32 × mH)) (rec51 : Nat → Int32 → Int32 → Int32 → Int32 → Int32 → Int32 → Int32 → Int32 → mH → Option (Int32 × mH)) (b0 : Nat) (b1 : Int32) (b2 : Int32) (b3 : Int32) (b4 : Int32) (b6 : Int32) (b7 : Int32) (b8 : Int32) (h : mH) : Option (Int32 × mH) :=
  f_M_read_130 rec36 rec51 b0 b1 b2 b3 b4 b6 b7 b8 (2 : Int32) h
set_option maxRecDepth 20000 in
theorem t_M_read_125 {sc : Nat × (Nat → Int32)} (rec36 : Nat → Int32 → Int32 → Int32 → Int32 → Int32 → Int32 → Int32 → mH → Option (Int32 × mH)) (hrec36 : ∀ (b0 : Nat) (b1 : Int32) (b2 : Int32) (b3 : Int32) (b4 : Int32) (b5 : Int32) (b6 : Int32) (b7 : Int32) (h : mH) (r : Int32) (h' : mH), rec36 b0 b1 b2 b3 b4 b5 b6 b7 h = some (r, h') → G sc y_M_read prog_10_method_89_code 11 (some .int) 5 113 36 [(0, .ref b0), (1, .int b1), (2, .int b2), (3, .int b3), (4, .int b4), (5, .int b5), (6, .int b6), (7, .int b7)] [] h (some (.int r)) h') (rec51 : Nat → Int32 → Int32 → Int32 → Int32 → Int32 → Int32 → Int32 → Int32 → mH → Option (Int32 × mH)) (hrec51 : ∀ (b0 : Nat) (b1 : Int32) (b2 : Int32) (b3 : Int32) (b4 : Int32) (b5 : Int32) (b6 : Int32) (b7 : Int32) (b8 : Int32) (h : mH) (r : Int32) (h' : mH), rec51 b0 b1 b2 b3 b4 b5 b6 b7 b8 h = some (r, h') → G sc y_M_read prog_10_method_89_code 11 (some .int) 5 113 51 [(0, .ref b0), (1, .int b1), (2, .int b2), (3, .int b3), (4, .int b4), (5, .int b5), (6, .int b6), (7, .int b7), (8, .int b8)] [] h (some (.int r)) h') (b0 : Nat) (b1 : Int32) (b2 : Int32) (b3 : Int32) (b4 : Int32) (b6 : Int32) (b7 : Int32) (b8 : Int32) (h : mH) (r : Int32) (h' : mH) (hf : f_M_read_125 rec36 rec51 b0 b1 b2 b3 b4 b6 b7 b8 h = some (r, h')) : G sc y_M_read prog_10_method_89_code 11 (some .int) 5 113 125 [(0, .ref b0), (1, .int b1), (2, .int b2), (3, .int b3), (4, .int b4), (6, .int b6), (7, .int b7), (8, .int b8)] [] h (some (.int r)) h' := by
  unfold f_M_read_125 at hf
  refine g_iconst (pc := 125) (2 : Int32) dd_M_read_84.2.2.2.2.2.2.2.2.2.2.2.2.2.2.2.2.2.2.2.2.2.2.2 (by decide) ?_
  refine g_goto (pc := 126) 130 dd_M_read_126.1 (by decide) ?_
  refine g_lv [0, 1, 2, 3, 4, 5, 6, 7] rfl ?_
  exact t_M_read_130 rec36 hrec36 rec51 hrec51 _ _ _ _ _ _ _ _ _ _ _ _  hf
def f_M_read_51b (rec36 : Nat → Int32 → Int32 → Int32 → Int32 → Int32 → Int32 → Int32 → mH → Option (Int32 × mH)) (rec51 : Nat → Int32 → Int32 → Int32 → Int32 → Int32 → Int32 → Int32 → Int32 → mH → Option (Int32 × mH)) (b0 : Nat) (b1 : Int32) (b2 : Int32) (b3 : Int32) (b4 : Int32) (b5 : Int32) (b6 : Int32) (b7 : Int32) (b8 : Int32) (h : mH) : Option (Int32 × mH) :=
  if (2 : Int32) ≤ b8 then
    f_M_read_138 rec36 b0 b1 b2 b3 b4 b5 b6 b7 h
  else
    if b5 = 0 then
      bd1 (gR h b0 8 35) fun x15 =>
      bd1 (aI h 0 x15 b1) fun x17 =>
      if x17 = ((-4) : Int32) then
        f_M_read_130 rec36 rec51 b0 b1 b2 b3 b4 b6 b7 b8 (1 : Int32) h
      else
        bd1 (gR h b0 8 35) fun x19 =>
        bd1 (aI h 0 x19 b1) fun x21 =>
        if x21 = b2 then
          if (lg_cmp ((b3.toInt64 + (((2 : Int32) * b7).toInt64)) + b8.toInt64) (0 : Int64)) < 0 then
            f_M_read_125 rec36 rec51 b0 b1 b2 b3 b4 b6 b7 b8 h
          else
            bd1 (gR h b0 8 36) fun x23 =>
            bd1 (aI h 0 x23 b1) fun x25 =>
            if (lg_cmp ((b3.toInt64 + (((2 : Int32) * b7).toInt64)) + b8.toInt64) x25.toInt64) < 0 then
              f_M_read_130 rec36 rec51 b0 b1 b2 b3 b4 b6 b7 b8 (0 : Int32) h
            else
              f_M_read_125 rec36 rec51 b0 b1 b2 b3 b4 b6 b7 b8 h
        else
          f_M_read_130 rec36 rec51 b0 b1 b2 b3 b4 b6 b7 b8 (3 : Int32) h
    else
      f_M_read_138 rec36 b0 b1 b2 b3 b4 b5 b6 b7 h
set_option maxRecDepth 20000 in
theorem t_M_read_51b {sc : Nat × (Nat → Int32)} (rec36 : Nat → Int32 → Int32 → Int32 → Int32 → Int32 → Int32 → Int32 → mH → Option (Int32 × mH)) (hrec36 : ∀ (b0 : Nat) (b1 : Int32) (b2 : Int32) (b3 : Int32) (b4 : Int32) (b5 : Int32) (b6 : Int32) (b7 : Int32) (h : mH) (r : Int32) (h' : mH), rec36 b0 b1 b2 b3 b4 b5 b6 b7 h = some (r, h') → G sc y_M_read prog_10_method_89_code 11 (some .int) 5 113 36 [(0, .ref b0), (1, .int b1), (2, .int b2), (3, .int b3), (4, .int b4), (5, .int b5), (6, .int b6), (7, .int b7)] [] h (some (.int r)) h') (rec51 : Nat → Int32 → Int32 → Int32 → Int32 → Int32 → Int32 → Int32 → Int32 → mH → Option (Int32 × mH)) (hrec51 : ∀ (b0 : Nat) (b1 : Int32) (b2 : Int32) (b3 : Int32) (b4 : Int32) (b5 : Int32) (b6 : Int32) (b7 : Int32) (b8 : Int32) (h : mH) (r : Int32) (h' : mH), rec51 b0 b1 b2 b3 b4 b5 b6 b7 b8 h = some (r, h') → G sc y_M_read prog_10_method_89_code 11 (some .int) 5 113 51 [(0, .ref b0), (1, .int b1), (2, .int b2), (3, .int b3), (4, .int b4), (5, .int b5), (6, .int b6), (7, .int b7), (8, .int b8)] [] h (some (.int r)) h') (b0 : Nat) (b1 : Int32) (b2 : Int32) (b3 : Int32) (b4 : Int32) (b5 : Int32) (b6 : Int32) (b7 : Int32) (b8 : Int32) (h : mH) (r : Int32) (h' : mH) (hf : f_M_read_51b rec36 rec51 b0 b1 b2 b3 b4 b5 b6 b7 b8 h = some (r, h')) : G sc y_M_read prog_10_method_89_code 11 (some .int) 5 113 51 [(0, .ref b0), (1, .int b1), (2, .int b2), (3, .int b3), (4, .int b4), (5, .int b5), (6, .int b6), (7, .int b7), (8, .int b8)] [] h (some (.int r)) h' := by
  unfold f_M_read_51b at hf
  refine g_iload (pc := 51) 8 dd_M_read_45.2.2.2.1 rfl ?_
  refine g_iconst (pc := 53) (2 : Int32) dd_M_read_45.2.2.2.2.1 (by decide) ?_
  refine g_icmpge (pc := 54) 138 dd_M_read_45.2.2.2.2.2.1 (by decide) (fun c32 => ?_) (fun c32 => ?_)
  · replace hf := (if_pos c32).symm.trans hf
    refine g_lv [0, 1, 2, 3, 4, 5, 6, 7] rfl ?_
    exact t_M_read_138 rec36 hrec36 _ _ _ _ _ _ _ _ _ _ _  hf
  · replace hf := (if_neg c32).symm.trans hf
    refine g_iload (pc := 57) 5 dd_M_read_45.2.2.2.2.2.2.1 rfl ?_
    refine g_ifne (pc := 59) 138 dd_M_read_45.2.2.2.2.2.2.2.1 (by decide) (fun c31 => ?_) (fun c31 => ?_)
    · replace hf := (if_neg c31).symm.trans hf
      refine g_lv [0, 1, 2, 3, 4, 5, 6, 7] rfl ?_
      exact t_M_read_138 rec36 hrec36 _ _ _ _ _ _ _ _ _ _ _  hf
    · replace hf := (if_pos c31).symm.trans hf
      refine g_iload_n (pc := 62) 3 dd_M_read_45.2.2.2.2.2.2.2.2.1 rfl rfl ?_
      refine g_i2l (pc := 63) dd_M_read_45.2.2.2.2.2.2.2.2.2.1 ?_
      refine g_iconst (pc := 64) (2 : Int32) dd_M_read_45.2.2.2.2.2.2.2.2.2.2.1 (by decide) ?_
      refine g_iload (pc := 65) 7 dd_M_read_45.2.2.2.2.2.2.2.2.2.2.2.1 rfl ?_
      refine g_imul (pc := 67) dd_M_read_45.2.2.2.2.2.2.2.2.2.2.2.2.1 ?_
      refine g_i2l (pc := 68) dd_M_read_45.2.2.2.2.2.2.2.2.2.2.2.2.2.1 ?_
      refine g_ladd (pc := 69) dd_M_read_45.2.2.2.2.2.2.2.2.2.2.2.2.2.2.1 ?_
      refine g_iload (pc := 70) 8 dd_M_read_45.2.2.2.2.2.2.2.2.2.2.2.2.2.2.2.1 rfl ?_
      refine g_i2l (pc := 72) dd_M_read_45.2.2.2.2.2.2.2.2.2.2.2.2.2.2.2.2.1 ?_
      refine g_ladd (pc := 73) dd_M_read_45.2.2.2.2.2.2.2.2.2.2.2.2.2.2.2.2.2.1 ?_
      refine g_lstore (pc := 74) [(9, .long ((b3.toInt64 + (((2 : Int32) * b7).toInt64)) + b8.toInt64)), (0, .ref b0), (1, .int b1), (2, .int b2), (3, .int b3), (4, .int b4), (5, .int b5), (6, .int b6), (7, .int b7), (8, .int b8)] dd_M_read_45.2.2.2.2.2.2.2.2.2.2.2.2.2.2.2.2.2.2.1 (Nat.le_of_ble_eq_true rfl) rfl ?_
      refine g_aload_n (pc := 76) 1 dd_M_read_45.2.2.2.2.2.2.2.2.2.2.2.2.2.2.2.2.2.2.2.1 rfl rfl ?_
      obtain ⟨x15, e16, hf⟩ := bd1_e hf
      refine g_get (pc := 77) (ci := 8) (kk := 35) dd_M_read_45.2.2.2.2.2.2.2.2.2.2.2.2.2.2.2.2.2.2.2.2.1 rfl in_M (by decide) wd_973 (gR_spec e16) ?_
      refine g_iload_n (pc := 80) 2 dd_M_read_45.2.2.2.2.2.2.2.2.2.2.2.2.2.2.2.2.2.2.2.2.2.1 rfl rfl ?_
      obtain ⟨x17, e18, hf⟩ := bd1_e hf
      refine g_iald (pc := 81) dd_M_read_45.2.2.2.2.2.2.2.2.2.2.2.2.2.2.2.2.2.2.2.2.2.2.1 e18 ?_
      refine g_bipush (pc := 82) ((-4) : Int32) dd_M_read_45.2.2.2.2.2.2.2.2.2.2.2.2.2.2.2.2.2.2.2.2.2.2.2 (by decide) ?_
      refine g_icmpne (pc := 84) 91 dd_M_read_84.1 (by decide) (fun c30 => ?_) (fun c30 => ?_)
      · replace hf := (if_neg c30).symm.trans hf
        refine g_aload_n (pc := 91) 1 dd_M_read_84.2.2.2.1 rfl rfl ?_
        obtain ⟨x19, e20, hf⟩ := bd1_e hf
        refine g_get (pc := 92) (ci := 8) (kk := 35) dd_M_read_84.2.2.2.2.1 rfl in_M (by decide) wd_973 (gR_spec e20) ?_
        refine g_iload_n (pc := 95) 2 dd_M_read_84.2.2.2.2.2.1 rfl rfl ?_
        obtain ⟨x21, e22, hf⟩ := bd1_e hf
        refine g_iald (pc := 96) dd_M_read_84.2.2.2.2.2.2.1 e22 ?_
        refine g_iload_n (pc := 97) 3 dd_M_read_84.2.2.2.2.2.2.2.1 rfl rfl ?_
        refine g_icmpeq (pc := 98) 105 dd_M_read_84.2.2.2.2.2.2.2.2.1 (by decide) (fun c29 => ?_) (fun c29 => ?_)
        · replace hf := (if_pos c29).symm.trans hf
          refine g_lload (pc := 105) 0 dd_M_read_84.2.2.2.2.2.2.2.2.2.2.2.1 rfl ?_
          refine g_lconst (pc := 107) (0 : Int64) dd_M_read_84.2.2.2.2.2.2.2.2.2.2.2.2.1 (by decide) ?_
          refine g_lcmp (pc := 108) dd_M_read_84.2.2.2.2.2.2.2.2.2.2.2.2.2.1 ?_
          refine g_iflt (pc := 109) 125 dd_M_read_84.2.2.2.2.2.2.2.2.2.2.2.2.2.2.1 (by decide) (fun c28 => ?_) (fun c28 => ?_)
          · replace hf := (if_pos c28).symm.trans hf
            refine g_lv [1, 2, 3, 4, 5, 7, 8, 9] rfl ?_
            exact t_M_read_125 rec36 hrec36 rec51 hrec51 _ _ _ _ _ _ _ _ _ _ _  hf
          · replace hf := (if_neg c28).symm.trans hf
            refine g_lload (pc := 112) 0 dd_M_read_84.2.2.2.2.2.2.2.2.2.2.2.2.2.2.2.1 rfl ?_
            refine g_aload_n (pc := 114) 1 dd_M_read_84.2.2.2.2.2.2.2.2.2.2.2.2.2.2.2.2.1 rfl rfl ?_
            obtain ⟨x23, e24, hf⟩ := bd1_e hf
            refine g_get (pc := 115) (ci := 8) (kk := 36) dd_M_read_84.2.2.2.2.2.2.2.2.2.2.2.2.2.2.2.2.2.1 rfl in_M (by decide) wd_974 (gR_spec e24) ?_
            refine g_iload_n (pc := 118) 2 dd_M_read_84.2.2.2.2.2.2.2.2.2.2.2.2.2.2.2.2.2.2.1 rfl rfl ?_
            obtain ⟨x25, e26, hf⟩ := bd1_e hf
            refine g_iald (pc := 119) dd_M_read_84.2.2.2.2.2.2.2.2.2.2.2.2.2.2.2.2.2.2.2.1 e26 ?_
            refine g_i2l (pc := 120) dd_M_read_84.2.2.2.2.2.2.2.2.2.2.2.2.2.2.2.2.2.2.2.2.1 ?_
            refine g_lcmp (pc := 121) dd_M_read_84.2.2.2.2.2.2.2.2.2.2.2.2.2.2.2.2.2.2.2.2.2.1 ?_
            refine g_iflt (pc := 122) 129 dd_M_read_84.2.2.2.2.2.2.2.2.2.2.2.2.2.2.2.2.2.2.2.2.2.2.1 (by decide) (fun c27 => ?_) (fun c27 => ?_)
            · replace hf := (if_pos c27).symm.trans hf
              refine g_iconst (pc := 129) (0 : Int32) dd_M_read_126.2.1 (by decide) ?_
              refine g_lv [1, 2, 3, 4, 5, 7, 8, 9] rfl ?_
              exact t_M_read_130 rec36 hrec36 rec51 hrec51 _ _ _ _ _ _ _ _ _ _ _ _  hf
            · replace hf := (if_neg c27).symm.trans hf
              refine g_lv [1, 2, 3, 4, 5, 7, 8, 9] rfl ?_
              exact t_M_read_125 rec36 hrec36 rec51 hrec51 _ _ _ _ _ _ _ _ _ _ _  hf
        · replace hf := (if_neg c29).symm.trans hf
          refine g_iconst (pc := 101) (3 : Int32) dd_M_read_84.2.2.2.2.2.2.2.2.2.1 (by decide) ?_
          refine g_goto (pc := 102) 130 dd_M_read_84.2.2.2.2.2.2.2.2.2.2.1 (by decide) ?_
          refine g_lv [1, 2, 3, 4, 5, 7, 8, 9] rfl ?_
          exact t_M_read_130 rec36 hrec36 rec51 hrec51 _ _ _ _ _ _ _ _ _ _ _ _  hf
      · replace hf := (if_pos c30).symm.trans hf
        refine g_iconst (pc := 87) (1 : Int32) dd_M_read_84.2.1 (by decide) ?_
        refine g_goto (pc := 88) 130 dd_M_read_84.2.2.1 (by decide) ?_
        refine g_lv [1, 2, 3, 4, 5, 7, 8, 9] rfl ?_
        exact t_M_read_130 rec36 hrec36 rec51 hrec51 _ _ _ _ _ _ _ _ _ _ _ _  hf
def f_M_read_51 (rec36 : Nat → Int32 → Int32 → Int32 → Int32 → Int32 → Int32 → Int32 → mH → Option (Int32 × mH)) : Nat → Nat → Int32 → Int32 → Int32 → Int32 → Int32 → Int32 → Int32 → Int32 → mH → Option (Int32 × mH)
  | 0 => fun _ _ _ _ _ _ _ _ _ _ => none
  | n + 1 => f_M_read_51b rec36 (f_M_read_51 rec36 n)
theorem t_M_read_51 {sc : Nat × (Nat → Int32)} (rec36 : Nat → Int32 → Int32 → Int32 → Int32 → Int32 → Int32 → Int32 → mH → Option (Int32 × mH)) (hrec36 : ∀ (b0 : Nat) (b1 : Int32) (b2 : Int32) (b3 : Int32) (b4 : Int32) (b5 : Int32) (b6 : Int32) (b7 : Int32) (h : mH) (r : Int32) (h' : mH), rec36 b0 b1 b2 b3 b4 b5 b6 b7 h = some (r, h') → G sc y_M_read prog_10_method_89_code 11 (some .int) 5 113 36 [(0, .ref b0), (1, .int b1), (2, .int b2), (3, .int b3), (4, .int b4), (5, .int b5), (6, .int b6), (7, .int b7)] [] h (some (.int r)) h') : ∀ (n : Nat) (b0 : Nat) (b1 : Int32) (b2 : Int32) (b3 : Int32) (b4 : Int32) (b5 : Int32) (b6 : Int32) (b7 : Int32) (b8 : Int32) (h : mH) (r : Int32) (h' : mH) (hf : f_M_read_51 rec36 n b0 b1 b2 b3 b4 b5 b6 b7 b8 h = some (r, h')), G sc y_M_read prog_10_method_89_code 11 (some .int) 5 113 51 [(0, .ref b0), (1, .int b1), (2, .int b2), (3, .int b3), (4, .int b4), (5, .int b5), (6, .int b6), (7, .int b7), (8, .int b8)] [] h (some (.int r)) h'
  | 0, _, _, _, _, _, _, _, _, _, _, _, _, hf => by cases hf
  | n + 1, _, _, _, _, _, _, _, _, _, _, _, _, hf => t_M_read_51b rec36 hrec36 (f_M_read_51 rec36 n) (t_M_read_51 rec36 hrec36 n) _ _ _ _ _ _ _ _ _ _ _ _ hf
def f_M_read_36b (rec36 : Nat → Int32 → Int32 → Int32 → Int32 → Int32 → Int32 → Int32 → mH → Option (Int32 × mH)) (b0 : Nat) (b1 : Int32) (b2 : Int32) (b3 : Int32) (b4 : Int32) (b5 : Int32) (b6 : Int32) (b7 : Int32) (h : mH) : Option (Int32 × mH) :=
  if b4 ≤ b7 then
    f_M_read_198  b0 b5 b6 h
  else
    if b5 = 0 then
      f_M_read_51 rec36 FU b0 b1 b2 b3 b4 b5 b6 b7 (0 : Int32) h
    else
      f_M_read_198  b0 b5 b6 h
set_option maxRecDepth 20000 in
theorem t_M_read_36b {sc : Nat × (Nat → Int32)} (rec36 : Nat → Int32 → Int32 → Int32 → Int32 → Int32 → Int32 → Int32 → mH → Option (Int32 × mH)) (hrec36 : ∀ (b0 : Nat) (b1 : Int32) (b2 : Int32) (b3 : Int32) (b4 : Int32) (b5 : Int32) (b6 : Int32) (b7 : Int32) (h : mH) (r : Int32) (h' : mH), rec36 b0 b1 b2 b3 b4 b5 b6 b7 h = some (r, h') → G sc y_M_read prog_10_method_89_code 11 (some .int) 5 113 36 [(0, .ref b0), (1, .int b1), (2, .int b2), (3, .int b3), (4, .int b4), (5, .int b5), (6, .int b6), (7, .int b7)] [] h (some (.int r)) h') (b0 : Nat) (b1 : Int32) (b2 : Int32) (b3 : Int32) (b4 : Int32) (b5 : Int32) (b6 : Int32) (b7 : Int32) (h : mH) (r : Int32) (h' : mH) (hf : f_M_read_36b rec36 b0 b1 b2 b3 b4 b5 b6 b7 h = some (r, h')) : G sc y_M_read prog_10_method_89_code 11 (some .int) 5 113 36 [(0, .ref b0), (1, .int b1), (2, .int b2), (3, .int b3), (4, .int b4), (5, .int b5), (6, .int b6), (7, .int b7)] [] h (some (.int r)) h' := by
  unfold f_M_read_36b at hf
  refine g_iload (pc := 36) 7 dd_M_read_0.2.2.2.2.2.2.2.2.2.2.2.2.2.2.2.2.2.2.2.2.1 rfl ?_
  refine g_iload (pc := 38) 4 dd_M_read_0.2.2.2.2.2.2.2.2.2.2.2.2.2.2.2.2.2.2.2.2.2.1 rfl ?_
  refine g_icmpge (pc := 40) 198 dd_M_read_0.2.2.2.2.2.2.2.2.2.2.2.2.2.2.2.2.2.2.2.2.2.2.1 (by decide) (fun c14 => ?_) (fun c14 => ?_)
  · replace hf := (if_pos c14).symm.trans hf
    refine g_lv [0, 5, 6] rfl ?_
    exact t_M_read_198  _ _ _ _ _ _  hf
  · replace hf := (if_neg c14).symm.trans hf
    refine g_iload (pc := 43) 5 dd_M_read_0.2.2.2.2.2.2.2.2.2.2.2.2.2.2.2.2.2.2.2.2.2.2.2 rfl ?_
    refine g_ifne (pc := 45) 198 dd_M_read_45.1 (by decide) (fun c13 => ?_) (fun c13 => ?_)
    · replace hf := (if_neg c13).symm.trans hf
      refine g_lv [0, 5, 6] rfl ?_
      exact t_M_read_198  _ _ _ _ _ _  hf
    · replace hf := (if_pos c13).symm.trans hf
      refine g_iconst (pc := 48) (0 : Int32) dd_M_read_45.2.1 (by decide) ?_
      refine g_istore (pc := 49) [(8, .int (0 : Int32)), (0, .ref b0), (1, .int b1), (2, .int b2), (3, .int b3), (4, .int b4), (5, .int b5), (6, .int b6), (7, .int b7)] dd_M_read_45.2.2.1 (Nat.le_of_ble_eq_true rfl) rfl ?_
      refine g_lv [1, 2, 3, 4, 5, 6, 7, 8, 0] rfl ?_
      exact t_M_read_51 rec36 hrec36 FU _ _ _ _ _ _ _ _ _ _ _ _  hf
def f_M_read_36  : Nat → Nat → Int32 → Int32 → Int32 → Int32 → Int32 → Int32 → Int32 → mH → Option (Int32 × mH)
  | 0 => fun _ _ _ _ _ _ _ _ _ => none
  | n + 1 => f_M_read_36b  (f_M_read_36  n)
theorem t_M_read_36 {sc : Nat × (Nat → Int32)}  : ∀ (n : Nat) (b0 : Nat) (b1 : Int32) (b2 : Int32) (b3 : Int32) (b4 : Int32) (b5 : Int32) (b6 : Int32) (b7 : Int32) (h : mH) (r : Int32) (h' : mH) (hf : f_M_read_36  n b0 b1 b2 b3 b4 b5 b6 b7 h = some (r, h')), G sc y_M_read prog_10_method_89_code 11 (some .int) 5 113 36 [(0, .ref b0), (1, .int b1), (2, .int b2), (3, .int b3), (4, .int b4), (5, .int b5), (6, .int b6), (7, .int b7)] [] h (some (.int r)) h'
  | 0, _, _, _, _, _, _, _, _, _, _, _, hf => by cases hf
  | n + 1, _, _, _, _, _, _, _, _, _, _, _, hf => t_M_read_36b  (f_M_read_36  n) (t_M_read_36  n) _ _ _ _ _ _ _ _ _ _ _ hf
def f_M_read_21   (h : mH) : Option (Int32 × mH) :=
  some (((-1) : Int32), h)
set_option maxRecDepth 20000 in
theorem t_M_read_21 {sc : Nat × (Nat → Int32)}   (h : mH) (r : Int32) (h' : mH) (hf : f_M_read_21   h = some (r, h')) : G sc y_M_read prog_10_method_89_code 11 (some .int) 5 113 21 [] [] h (some (.int r)) h' := by
  unfold f_M_read_21 at hf
  refine g_iconst (pc := 21) ((-1) : Int32) dd_M_read_0.2.2.2.2.2.2.2.2.2.2.1 (by decide) ?_
  obtain ⟨rfl, rfl⟩ := ret2 hf
  exact g_iret (pc := 22) rfl dd_M_read_0.2.2.2.2.2.2.2.2.2.2.2.1
def f_M_read_0  (a0 : Nat) (a1 : Int32) (a2 : Int32) (a3 : Int32) (a4 : Int32) (h : mH) : Option (Int32 × mH) :=
  bd2 (f_M_isSheet a1 a2 h) fun x3 h1 =>
  if x3 = 0 then
    f_M_read_21  h1
  else
    bd2 (f_M_in a4.toInt64 (0 : Int64) (20 : Int64) h1) fun x6 h4 =>
    if x6 = 0 then
      f_M_read_21  h4
    else
      bd1 (kC h4 a0 8) fun _ =>
      bd1 (f_M_saves a0 h4) fun h9 =>
      f_M_read_36  FU a0 a1 a2 a3 a4 (0 : Int32) (0 : Int32) (0 : Int32) h9
set_option maxRecDepth 20000 in
theorem t_M_read_0 {sc : Nat × (Nat → Int32)}  (a0 : Nat) (a1 : Int32) (a2 : Int32) (a3 : Int32) (a4 : Int32) (h : mH) (r : Int32) (h' : mH) (hf : f_M_read_0  a0 a1 a2 a3 a4 h = some (r, h')) : G sc y_M_read prog_10_method_89_code 11 (some .int) 5 113 0 [(0, .ref a0), (1, .int a1), (2, .int a2), (3, .int a3), (4, .int a4)] [] h (some (.int r)) h' := by
  unfold f_M_read_0 at hf
  refine g_iload_n (pc := 0) 1 dd_M_read_0.1 rfl rfl ?_
  refine g_iload_n (pc := 1) 2 dd_M_read_0.2.1 rfl rfl ?_
  obtain ⟨x3, h1, e2, hf⟩ := bd2_e hf
  refine g_callS (pc := 2) [.int a1, .int a2] (site_of si_M_isSheet (by decide) (by decide)) wd_1396 wd_1397 dd_M_read_0.2.2.1 (Nat.le_of_ble_eq_true rfl) (fun z => absurd z si_na_M_isSheet) (fun z => absurd z si_na_M_isSheet) (fun z => absurd z si_na_M_isSheet) (c_M_isSheet e2) rfl ?_
  refine g_st [.int x3] rfl ?_
  refine g_ifeq (pc := 5) 21 dd_M_read_0.2.2.2.1 (by decide) (fun c12 => ?_) (fun c12 => ?_)
  · replace hf := (if_pos c12).symm.trans hf
    refine g_lv [] rfl ?_
    exact t_M_read_21  _ _ _  hf
  · replace hf := (if_neg c12).symm.trans hf
    refine g_iload (pc := 8) 4 dd_M_read_0.2.2.2.2.1 rfl ?_
    refine g_i2l (pc := 10) dd_M_read_0.2.2.2.2.2.1 ?_
    refine g_lconst (pc := 11) (0 : Int64) dd_M_read_0.2.2.2.2.2.2.1 (by decide) ?_
    refine g_ldc2 (pc := 12) (20 : Int64) dd_M_read_0.2.2.2.2.2.2.2.1 wd_1332 ?_
    obtain ⟨x6, h4, e5, hf⟩ := bd2_e hf
    refine g_callS (pc := 15) [.long a4.toInt64, .long (0 : Int64), .long (20 : Int64)] (site_of si_M_in (by decide) (by decide)) wd_1061 wd_1062 dd_M_read_0.2.2.2.2.2.2.2.2.1 (Nat.le_of_ble_eq_true rfl) (fun z => absurd z si_na_M_in) (fun z => absurd z si_na_M_in) (fun z => absurd z si_na_M_in) (c_M_in e5) rfl ?_
    refine g_st [.int x6] rfl ?_
    refine g_ifne (pc := 18) 23 dd_M_read_0.2.2.2.2.2.2.2.2.2.1 (by decide) (fun c11 => ?_) (fun c11 => ?_)
    · replace hf := (if_neg c11).symm.trans hf
      refine g_aload_n (pc := 23) 0 dd_M_read_0.2.2.2.2.2.2.2.2.2.2.2.2.1 rfl rfl ?_
      obtain ⟨u8, e7, hf⟩ := bd1_e hf
      obtain ⟨h9, e10, hf⟩ := bd1_e hf
      refine g_callV (pc := 24) (ci := 8) [] (site_of si_M_saves (by decide) (by decide)) wd_1307 wd_1309 wp_64 dd_M_read_0.2.2.2.2.2.2.2.2.2.2.2.2.2.1 rfl e7 (Nat.le_of_ble_eq_true rfl) (fun z => absurd z si_na_M_saves) (fun z => absurd z si_na_M_saves) (fun z => absurd z si_na_M_saves) (c_M_saves e10) rfl ?_
      refine g_st [] rfl ?_
      refine g_iconst (pc := 27) (0 : Int32) dd_M_read_0.2.2.2.2.2.2.2.2.2.2.2.2.2.2.1 (by decide) ?_
      refine g_istore (pc := 28) [(5, .int (0 : Int32)), (0, .ref a0), (1, .int a1), (2, .int a2), (3, .int a3), (4, .int a4)] dd_M_read_0.2.2.2.2.2.2.2.2.2.2.2.2.2.2.2.1 (Nat.le_of_ble_eq_true rfl) rfl ?_
      refine g_iconst (pc := 30) (0 : Int32) dd_M_read_0.2.2.2.2.2.2.2.2.2.2.2.2.2.2.2.2.1 (by decide) ?_
      refine g_istore (pc := 31) [(6, .int (0 : Int32)), (5, .int (0 : Int32)), (0, .ref a0), (1, .int a1), (2, .int a2), (3, .int a3), (4, .int a4)] dd_M_read_0.2.2.2.2.2.2.2.2.2.2.2.2.2.2.2.2.2.1 (Nat.le_of_ble_eq_true rfl) rfl ?_
      refine g_iconst (pc := 33) (0 : Int32) dd_M_read_0.2.2.2.2.2.2.2.2.2.2.2.2.2.2.2.2.2.2.1 (by decide) ?_
      refine g_istore (pc := 34) [(7, .int (0 : Int32)), (6, .int (0 : Int32)), (5, .int (0 : Int32)), (0, .ref a0), (1, .int a1), (2, .int a2), (3, .int a3), (4, .int a4)] dd_M_read_0.2.2.2.2.2.2.2.2.2.2.2.2.2.2.2.2.2.2.2.1 (Nat.le_of_ble_eq_true rfl) rfl ?_
      refine g_lv [3, 4, 5, 6, 7, 2, 1, 0] rfl ?_
      exact t_M_read_36  FU _ _ _ _ _ _ _ _ _ _ _  hf
    · replace hf := (if_pos c11).symm.trans hf
      refine g_lv [] rfl ?_
      exact t_M_read_21  _ _ _  hf
def f_M_read (a0 : Nat) (a1 : Int32) (a2 : Int32) (a3 : Int32) (a4 : Int32) (h : mH) : Option (Int32 × mH) := f_M_read_0 a0 a1 a2 a3 a4 h
theorem c_M_read {sc : Nat × (Nat → Int32)} {a0 : Nat} {a1 : Int32} {a2 : Int32} {a3 : Int32} {a4 : Int32} {h : mH} {r : Int32} {h' : mH} (hf : f_M_read a0 a1 a2 a3 a4 h = some (r, h')) : MM sc y_M_read prog_10_method_89_code 11 (some .int) 5 113 [.ref a0, .int a1, .int a2, .int a3, .int a4] h (some (.int r)) h' :=
  mm_of_G si_pn_M (Nat.le_of_ble_eq_true rfl) (t_M_read_0 _ _ _ _ _ _ _ _ hf)
/-! M torn ()I -/
set_option maxRecDepth 100000 in
theorem dd_M_torn_0 : (decode prog_10_method_90_code 0 = .ok (.aload_n 0, 1)) ∧ (decode prog_10_method_90_code 1 = .ok (.getfield 332, 3)) ∧ (decode prog_10_method_90_code 4 = .ok (.ireturn, 1)) := by
  have h : List.drop 0 prog_10_method_90_code.data.toList = 0x2a :: _ := rfl
  refine ⟨zq_k_n 42 h rfl (zq_o_42 _), ?_⟩
  replace h := zq_nx1 (q := 1) h rfl
  refine ⟨zq_k_u2 180 (fun z => .getfield z) 332 h rfl (zq_o_180 _) (by decide +kernel), ?_⟩
  replace h := zq_nx3 (q := 4) h rfl
  exact zq_k_n 172 h rfl (zq_o_172 _)
def f_M_torn_0  (a0 : Nat) (h : mH) : Option (Int32 × mH) :=
  bd1 (gI h a0 8 38) fun x1 =>
  some (x1, h)
set_option maxRecDepth 20000 in
theorem t_M_torn_0 {sc : Nat × (Nat → Int32)}  (a0 : Nat) (h : mH) (r : Int32) (h' : mH) (hf : f_M_torn_0  a0 h = some (r, h')) : G sc y_M_torn prog_10_method_90_code 1 (some .int) 0 0 0 [(0, .ref a0)] [] h (some (.int r)) h' := by
  unfold f_M_torn_0 at hf
  refine g_aload_n (pc := 0) 0 dd_M_torn_0.1 rfl rfl ?_
  obtain ⟨x1, e2, hf⟩ := bd1_e hf
  refine g_get (pc := 1) (ci := 8) (kk := 38) dd_M_torn_0.2.1 rfl in_M (by decide) wd_976 (gI_spec e2) ?_
  obtain ⟨rfl, rfl⟩ := ret2 hf
  exact g_iret (pc := 4) rfl dd_M_torn_0.2.2
def f_M_torn (a0 : Nat) (h : mH) : Option (Int32 × mH) := f_M_torn_0 a0 h
theorem c_M_torn {sc : Nat × (Nat → Int32)} {a0 : Nat} {h : mH} {r : Int32} {h' : mH} (hf : f_M_torn a0 h = some (r, h')) : MM sc y_M_torn prog_10_method_90_code 1 (some .int) 0 0 [.ref a0] h (some (.int r)) h' :=
  mm_of_G si_pn_M (Nat.le_of_ble_eq_true rfl) (t_M_torn_0 _ _ _ _ hf)
/-! M count (I)I -/
set_option maxRecDepth 100000 in
theorem dd_M_count_0 : (decode prog_10_method_91_code 0 = .ok (.iconst 0, 1)) ∧ (decode prog_10_method_91_code 1 = .ok (.istore_n 2, 1)) ∧ (decode prog_10_method_91_code 2 = .ok (.iconst 0, 1)) ∧ (decode prog_10_method_91_code 3 = .ok (.istore_n 3, 1)) ∧ (decode prog_10_method_91_code 4 = .ok (.iconst 0, 1)) ∧ (decode prog_10_method_91_code 5 = .ok (.istore 4, 2)) ∧ (decode prog_10_method_91_code 7 = .ok (.iconst 0, 1)) ∧ (decode prog_10_method_91_code 8 = .ok (.istore 5, 2)) ∧ (decode prog_10_method_91_code 10 = .ok (.iload 5, 2)) ∧ (decode prog_10_method_91_code 12 = .ok (.aload_n 0, 1)) ∧ (decode prog_10_method_91_code 13 = .ok (.getfield 109, 3)) ∧ (decode prog_10_method_91_code 16 = .ok (.if_icmp .ge 31, 3)) ∧ (decode prog_10_method_91_code 19 = .ok (.iload_n 2, 1)) ∧ (decode prog_10_method_91_code 20 = .ok (.aload_n 0, 1)) ∧ (decode prog_10_method_91_code 21 = .ok (.iload 5, 2)) ∧ (decode prog_10_method_91_code 23 = .ok (.invokevirtual 195, 3)) ∧ (decode prog_10_method_91_code 26 = .ok (.iadd, 1)) ∧ (decode prog_10_method_91_code 27 = .ok (.istore_n 2, 1)) ∧ (decode prog_10_method_91_code 28 = .ok (.iload_n 3, 1)) ∧ (decode prog_10_method_91_code 29 = .ok (.aload_n 0, 1)) ∧ (decode prog_10_method_91_code 30 = .ok (.getfield 7, 3)) ∧ (decode prog_10_method_91_code 33 = .ok (.bipush 15, 2)) ∧ (decode prog_10_method_91_code 35 = .ok (.iload 5, 2)) ∧ (decode prog_10_method_91_code 37 = .ok (.iadd, 1)) := by
  have h : List.drop 0 prog_10_method_91_code.data.toList = 0x03 :: _ := rfl
  refine ⟨zq_k_n 3 h rfl (zq_o_3 _), ?_⟩
  replace h := zq_nx1 (q := 1) h rfl
  refine ⟨zq_k_n 61 h rfl (zq_o_61 _), ?_⟩
  replace h := zq_nx1 (q := 2) h rfl
  refine ⟨zq_k_n 3 h rfl (zq_o_3 _), ?_⟩
  replace h := zq_nx1 (q := 3) h rfl
  refine ⟨zq_k_n 62 h rfl (zq_o_62 _), ?_⟩
  replace h := zq_nx1 (q := 4) h rfl
  refine ⟨zq_k_n 3 h rfl (zq_o_3 _), ?_⟩
  replace h := zq_nx1 (q := 5) h rfl
  refine ⟨zq_k_u1 54 (fun z => .istore z) 4 h rfl (zq_o_54 _) (by decide +kernel), ?_⟩
  replace h := zq_nx2 (q := 7) h rfl
  refine ⟨zq_k_n 3 h rfl (zq_o_3 _), ?_⟩
  replace h := zq_nx1 (q := 8) h rfl
  refine ⟨zq_k_u1 54 (fun z => .istore z) 5 h rfl (zq_o_54 _) (by decide +kernel), ?_⟩
  replace h := zq_nx2 (q := 10) h rfl
  refine ⟨zq_k_u1 21 (fun z => .iload z) 5 h rfl (zq_o_21 _) (by decide +kernel), ?_⟩
  replace h := zq_nx2 (q := 12) h rfl
  refine ⟨zq_k_n 42 h rfl (zq_o_42 _), ?_⟩
  replace h := zq_nx1 (q := 13) h rfl
  refine ⟨zq_k_u2 180 (fun z => .getfield z) 109 h rfl (zq_o_180 _) (by decide +kernel), ?_⟩
  replace h := zq_nx3 (q := 16) h rfl
  refine ⟨zq_k_s2 162 (fun z => .if_icmp .ge z) 31 h rfl (zq_o_162 _) (by decide +kernel), ?_⟩
  replace h := zq_nx3 (q := 19) h rfl
  refine ⟨zq_k_n 28 h rfl (zq_o_28 _), ?_⟩
  replace h := zq_nx1 (q := 20) h rfl
  refine ⟨zq_k_n 42 h rfl (zq_o_42 _), ?_⟩
  replace h := zq_nx1 (q := 21) h rfl
  refine ⟨zq_k_u1 21 (fun z => .iload z) 5 h rfl (zq_o_21 _) (by decide +kernel), ?_⟩
  replace h := zq_nx2 (q := 23) h rfl
  refine ⟨zq_k_u2 182 (fun z => .invokevirtual z) 195 h rfl (zq_o_182 _) (by decide +kernel), ?_⟩
  replace h := zq_nx3 (q := 26) h rfl
  refine ⟨zq_k_n 96 h rfl (zq_o_96 _), ?_⟩
  replace h := zq_nx1 (q := 27) h rfl
  refine ⟨zq_k_n 61 h rfl (zq_o_61 _), ?_⟩
  replace h := zq_nx1 (q := 28) h rfl
  refine ⟨zq_k_n 29 h rfl (zq_o_29 _), ?_⟩
  replace h := zq_nx1 (q := 29) h rfl
  refine ⟨zq_k_n 42 h rfl (zq_o_42 _), ?_⟩
  replace h := zq_nx1 (q := 30) h rfl
  refine ⟨zq_k_u2 180 (fun z => .getfield z) 7 h rfl (zq_o_180 _) (by decide +kernel), ?_⟩
  replace h := zq_nx3 (q := 33) h rfl
  refine ⟨zq_k_s1 16 (fun z => .bipush z) 15 h rfl (zq_o_16 _) (by decide +kernel), ?_⟩
  replace h := zq_nx2 (q := 35) h rfl
  refine ⟨zq_k_u1 21 (fun z => .iload z) 5 h rfl (zq_o_21 _) (by decide +kernel), ?_⟩
  replace h := zq_nx2 (q := 37) h rfl
  exact zq_k_n 96 h rfl (zq_o_96 _)
set_option maxRecDepth 100000 in
theorem dd_M_count_38 : (decode prog_10_method_91_code 38 = .ok (.iaload, 1)) ∧ (decode prog_10_method_91_code 39 = .ok (.iadd, 1)) ∧ (decode prog_10_method_91_code 40 = .ok (.istore_n 3, 1)) ∧ (decode prog_10_method_91_code 41 = .ok (.iinc 5 1, 3)) ∧ (decode prog_10_method_91_code 44 = .ok (.goto (-34), 3)) ∧ (decode prog_10_method_91_code 47 = .ok (.iconst 0, 1)) ∧ (decode prog_10_method_91_code 48 = .ok (.istore 5, 2)) ∧ (decode prog_10_method_91_code 50 = .ok (.iload 5, 2)) ∧ (decode prog_10_method_91_code 52 = .ok (.aload_n 0, 1)) ∧ (decode prog_10_method_91_code 53 = .ok (.getfield 106, 3)) ∧ (decode prog_10_method_91_code 56 = .ok (.if_icmp .ge 20, 3)) ∧ (decode prog_10_method_91_code 59 = .ok (.iload 4, 2)) ∧ (decode prog_10_method_91_code 61 = .ok (.aload_n 0, 1)) ∧ (decode prog_10_method_91_code 62 = .ok (.iload 5, 2)) ∧ (decode prog_10_method_91_code 64 = .ok (.invokevirtual 204, 3)) ∧ (decode prog_10_method_91_code 67 = .ok (.iadd, 1)) ∧ (decode prog_10_method_91_code 68 = .ok (.istore 4, 2)) ∧ (decode prog_10_method_91_code 70 = .ok (.iinc 5 1, 3)) ∧ (decode prog_10_method_91_code 73 = .ok (.goto (-23), 3)) ∧ (decode prog_10_method_91_code 76 = .ok (.iload_n 1, 1)) ∧ (decode prog_10_method_91_code 77 = .ok (.tableswitch 121 0 7 #[47, 58, 60, 68, 88, 93, 116, 118], 47)) ∧ (decode prog_10_method_91_code 124 = .ok (.aload_n 0, 1)) ∧ (decode prog_10_method_91_code 125 = .ok (.getfield 7, 3)) ∧ (decode prog_10_method_91_code 128 = .ok (.bipush 10, 2)) := by
  have h : List.drop 38 prog_10_method_91_code.data.toList = 0x2e :: _ := rfl
  refine ⟨zq_k_n 46 h rfl (zq_o_46 _), ?_⟩
  replace h := zq_nx1 (q := 39) h rfl
  refine ⟨zq_k_n 96 h rfl (zq_o_96 _), ?_⟩
  replace h := zq_nx1 (q := 40) h rfl
  refine ⟨zq_k_n 62 h rfl (zq_o_62 _), ?_⟩
  replace h := zq_nx1 (q := 41) h rfl
  refine ⟨zq_k_iinc 5 1 h rfl (zq_o_132 _) (by decide +kernel) (by decide +kernel), ?_⟩
  replace h := zq_nx3 (q := 44) h rfl
  refine ⟨zq_k_s2 167 (fun z => .goto z) (-34) h rfl (zq_o_167 _) (by decide +kernel), ?_⟩
  replace h := zq_nx3 (q := 47) h rfl
  refine ⟨zq_k_n 3 h rfl (zq_o_3 _), ?_⟩
  replace h := zq_nx1 (q := 48) h rfl
  refine ⟨zq_k_u1 54 (fun z => .istore z) 5 h rfl (zq_o_54 _) (by decide +kernel), ?_⟩
  replace h := zq_nx2 (q := 50) h rfl
  refine ⟨zq_k_u1 21 (fun z => .iload z) 5 h rfl (zq_o_21 _) (by decide +kernel), ?_⟩
  replace h := zq_nx2 (q := 52) h rfl
  refine ⟨zq_k_n 42 h rfl (zq_o_42 _), ?_⟩
  replace h := zq_nx1 (q := 53) h rfl
  refine ⟨zq_k_u2 180 (fun z => .getfield z) 106 h rfl (zq_o_180 _) (by decide +kernel), ?_⟩
  replace h := zq_nx3 (q := 56) h rfl
  refine ⟨zq_k_s2 162 (fun z => .if_icmp .ge z) 20 h rfl (zq_o_162 _) (by decide +kernel), ?_⟩
  replace h := zq_nx3 (q := 59) h rfl
  refine ⟨zq_k_u1 21 (fun z => .iload z) 4 h rfl (zq_o_21 _) (by decide +kernel), ?_⟩
  replace h := zq_nx2 (q := 61) h rfl
  refine ⟨zq_k_n 42 h rfl (zq_o_42 _), ?_⟩
  replace h := zq_nx1 (q := 62) h rfl
  refine ⟨zq_k_u1 21 (fun z => .iload z) 5 h rfl (zq_o_21 _) (by decide +kernel), ?_⟩
  replace h := zq_nx2 (q := 64) h rfl
  refine ⟨zq_k_u2 182 (fun z => .invokevirtual z) 204 h rfl (zq_o_182 _) (by decide +kernel), ?_⟩
  replace h := zq_nx3 (q := 67) h rfl
  refine ⟨zq_k_n 96 h rfl (zq_o_96 _), ?_⟩
  replace h := zq_nx1 (q := 68) h rfl
  refine ⟨zq_k_u1 54 (fun z => .istore z) 4 h rfl (zq_o_54 _) (by decide +kernel), ?_⟩
  replace h := zq_nx2 (q := 70) h rfl
  refine ⟨zq_k_iinc 5 1 h rfl (zq_o_132 _) (by decide +kernel) (by decide +kernel), ?_⟩
  replace h := zq_nx3 (q := 73) h rfl
  refine ⟨zq_k_s2 167 (fun z => .goto z) (-23) h rfl (zq_o_167 _) (by decide +kernel), ?_⟩
  replace h := zq_nx3 (q := 76) h rfl
  refine ⟨zq_k_n 27 h rfl (zq_o_27 _), ?_⟩
  replace h := zq_nx1 (q := 77) h rfl
  refine ⟨by decide +kernel, ?_⟩
  have h : List.drop 124 prog_10_method_91_code.data.toList = 0x2a :: _ := rfl
  refine ⟨zq_k_n 42 h rfl (zq_o_42 _), ?_⟩
  replace h := zq_nx1 (q := 125) h rfl
  refine ⟨zq_k_u2 180 (fun z => .getfield z) 7 h rfl (zq_o_180 _) (by decide +kernel), ?_⟩
  replace h := zq_nx3 (q := 128) h rfl
  exact zq_k_s1 16 (fun z => .bipush z) 10 h rfl (zq_o_16 _) (by decide +kernel)
set_option maxRecDepth 100000 in
theorem dd_M_count_130 : (decode prog_10_method_91_code 130 = .ok (.iaload, 1)) ∧ (decode prog_10_method_91_code 131 = .ok (.invokestatic 237, 3)) ∧ (decode prog_10_method_91_code 134 = .ok (.ireturn, 1)) ∧ (decode prog_10_method_91_code 135 = .ok (.iload_n 2, 1)) ∧ (decode prog_10_method_91_code 136 = .ok (.ireturn, 1)) ∧ (decode prog_10_method_91_code 137 = .ok (.aload_n 0, 1)) ∧ (decode prog_10_method_91_code 138 = .ok (.getfield 7, 3)) ∧ (decode prog_10_method_91_code 141 = .ok (.bipush 41, 2)) ∧ (decode prog_10_method_91_code 143 = .ok (.iaload, 1)) ∧ (decode prog_10_method_91_code 144 = .ok (.ireturn, 1)) ∧ (decode prog_10_method_91_code 145 = .ok (.aload_n 0, 1)) ∧ (decode prog_10_method_91_code 146 = .ok (.getfield 13, 3)) ∧ (decode prog_10_method_91_code 149 = .ok (.iconst 0, 1)) ∧ (decode prog_10_method_91_code 150 = .ok (.baload, 1)) ∧ (decode prog_10_method_91_code 151 = .ok (.invokestatic 220, 3)) ∧ (decode prog_10_method_91_code 154 = .ok (.aload_n 0, 1)) ∧ (decode prog_10_method_91_code 155 = .ok (.getfield 13, 3)) ∧ (decode prog_10_method_91_code 158 = .ok (.iconst 1, 1)) ∧ (decode prog_10_method_91_code 159 = .ok (.baload, 1)) ∧ (decode prog_10_method_91_code 160 = .ok (.invokestatic 220, 3)) ∧ (decode prog_10_method_91_code 163 = .ok (.iadd, 1)) ∧ (decode prog_10_method_91_code 164 = .ok (.ireturn, 1)) ∧ (decode prog_10_method_91_code 165 = .ok (.aload_n 0, 1)) ∧ (decode prog_10_method_91_code 166 = .ok (.getfield 118, 3)) := by
  have h : List.drop 130 prog_10_method_91_code.data.toList = 0x2e :: _ := rfl
  refine ⟨zq_k_n 46 h rfl (zq_o_46 _), ?_⟩
  replace h := zq_nx1 (q := 131) h rfl
  refine ⟨zq_k_u2 184 (fun z => .invokestatic z) 237 h rfl (zq_o_184 _) (by decide +kernel), ?_⟩
  replace h := zq_nx3 (q := 134) h rfl
  refine ⟨zq_k_n 172 h rfl (zq_o_172 _), ?_⟩
  replace h := zq_nx1 (q := 135) h rfl
  refine ⟨zq_k_n 28 h rfl (zq_o_28 _), ?_⟩
  replace h := zq_nx1 (q := 136) h rfl
  refine ⟨zq_k_n 172 h rfl (zq_o_172 _), ?_⟩
  replace h := zq_nx1 (q := 137) h rfl
  refine ⟨zq_k_n 42 h rfl (zq_o_42 _), ?_⟩
  replace h := zq_nx1 (q := 138) h rfl
  refine ⟨zq_k_u2 180 (fun z => .getfield z) 7 h rfl (zq_o_180 _) (by decide +kernel), ?_⟩
  replace h := zq_nx3 (q := 141) h rfl
  refine ⟨zq_k_s1 16 (fun z => .bipush z) 41 h rfl (zq_o_16 _) (by decide +kernel), ?_⟩
  replace h := zq_nx2 (q := 143) h rfl
  refine ⟨zq_k_n 46 h rfl (zq_o_46 _), ?_⟩
  replace h := zq_nx1 (q := 144) h rfl
  refine ⟨zq_k_n 172 h rfl (zq_o_172 _), ?_⟩
  replace h := zq_nx1 (q := 145) h rfl
  refine ⟨zq_k_n 42 h rfl (zq_o_42 _), ?_⟩
  replace h := zq_nx1 (q := 146) h rfl
  refine ⟨zq_k_u2 180 (fun z => .getfield z) 13 h rfl (zq_o_180 _) (by decide +kernel), ?_⟩
  replace h := zq_nx3 (q := 149) h rfl
  refine ⟨zq_k_n 3 h rfl (zq_o_3 _), ?_⟩
  replace h := zq_nx1 (q := 150) h rfl
  refine ⟨zq_k_n 51 h rfl (zq_o_51 _), ?_⟩
  replace h := zq_nx1 (q := 151) h rfl
  refine ⟨zq_k_u2 184 (fun z => .invokestatic z) 220 h rfl (zq_o_184 _) (by decide +kernel), ?_⟩
  replace h := zq_nx3 (q := 154) h rfl
  refine ⟨zq_k_n 42 h rfl (zq_o_42 _), ?_⟩
  replace h := zq_nx1 (q := 155) h rfl
  refine ⟨zq_k_u2 180 (fun z => .getfield z) 13 h rfl (zq_o_180 _) (by decide +kernel), ?_⟩
  replace h := zq_nx3 (q := 158) h rfl
  refine ⟨zq_k_n 4 h rfl (zq_o_4 _), ?_⟩
  replace h := zq_nx1 (q := 159) h rfl
  refine ⟨zq_k_n 51 h rfl (zq_o_51 _), ?_⟩
  replace h := zq_nx1 (q := 160) h rfl
  refine ⟨zq_k_u2 184 (fun z => .invokestatic z) 220 h rfl (zq_o_184 _) (by decide +kernel), ?_⟩
  replace h := zq_nx3 (q := 163) h rfl
  refine ⟨zq_k_n 96 h rfl (zq_o_96 _), ?_⟩
  replace h := zq_nx1 (q := 164) h rfl
  refine ⟨zq_k_n 172 h rfl (zq_o_172 _), ?_⟩
  replace h := zq_nx1 (q := 165) h rfl
  refine ⟨zq_k_n 42 h rfl (zq_o_42 _), ?_⟩
  replace h := zq_nx1 (q := 166) h rfl
  exact zq_k_u2 180 (fun z => .getfield z) 118 h rfl (zq_o_180 _) (by decide +kernel)
set_option maxRecDepth 100000 in
theorem dd_M_count_169 : (decode prog_10_method_91_code 169 = .ok (.ireturn, 1)) ∧ (decode prog_10_method_91_code 170 = .ok (.aload_n 0, 1)) ∧ (decode prog_10_method_91_code 171 = .ok (.getfield 78, 3)) ∧ (decode prog_10_method_91_code 174 = .ok (.iconst 0, 1)) ∧ (decode prog_10_method_91_code 175 = .ok (.iaload, 1)) ∧ (decode prog_10_method_91_code 176 = .ok (.bipush (-4), 2)) ∧ (decode prog_10_method_91_code 178 = .ok (.if_icmp .ne 8, 3)) ∧ (decode prog_10_method_91_code 181 = .ok (.bipush (-4), 2)) ∧ (decode prog_10_method_91_code 183 = .ok (.goto 9, 3)) ∧ (decode prog_10_method_91_code 186 = .ok (.aload_n 0, 1)) ∧ (decode prog_10_method_91_code 187 = .ok (.getfield 81, 3)) ∧ (decode prog_10_method_91_code 190 = .ok (.iconst 0, 1)) ∧ (decode prog_10_method_91_code 191 = .ok (.iaload, 1)) ∧ (decode prog_10_method_91_code 192 = .ok (.ireturn, 1)) ∧ (decode prog_10_method_91_code 193 = .ok (.iload_n 3, 1)) ∧ (decode prog_10_method_91_code 194 = .ok (.ireturn, 1)) ∧ (decode prog_10_method_91_code 195 = .ok (.iload 4, 2)) ∧ (decode prog_10_method_91_code 197 = .ok (.ireturn, 1)) ∧ (decode prog_10_method_91_code 198 = .ok (.iconst (-1), 1)) ∧ (decode prog_10_method_91_code 199 = .ok (.ireturn, 1)) := by
  have h : List.drop 169 prog_10_method_91_code.data.toList = 0xac :: _ := rfl
  refine ⟨zq_k_n 172 h rfl (zq_o_172 _), ?_⟩
  replace h := zq_nx1 (q := 170) h rfl
  refine ⟨zq_k_n 42 h rfl (zq_o_42 _), ?_⟩
  replace h := zq_nx1 (q := 171) h rfl
  refine ⟨zq_k_u2 180 (fun z => .getfield z) 78 h rfl (zq_o_180 _) (by decide +kernel), ?_⟩
  replace h := zq_nx3 (q := 174) h rfl
  refine ⟨zq_k_n 3 h rfl (zq_o_3 _), ?_⟩
  replace h := zq_nx1 (q := 175) h rfl
  refine ⟨zq_k_n 46 h rfl (zq_o_46 _), ?_⟩
  replace h := zq_nx1 (q := 176) h rfl
  refine ⟨zq_k_s1 16 (fun z => .bipush z) (-4) h rfl (zq_o_16 _) (by decide +kernel), ?_⟩
  replace h := zq_nx2 (q := 178) h rfl
  refine ⟨zq_k_s2 160 (fun z => .if_icmp .ne z) 8 h rfl (zq_o_160 _) (by decide +kernel), ?_⟩
  replace h := zq_nx3 (q := 181) h rfl
  refine ⟨zq_k_s1 16 (fun z => .bipush z) (-4) h rfl (zq_o_16 _) (by decide +kernel), ?_⟩
  replace h := zq_nx2 (q := 183) h rfl
  refine ⟨zq_k_s2 167 (fun z => .goto z) 9 h rfl (zq_o_167 _) (by decide +kernel), ?_⟩
  replace h := zq_nx3 (q := 186) h rfl
  refine ⟨zq_k_n 42 h rfl (zq_o_42 _), ?_⟩
  replace h := zq_nx1 (q := 187) h rfl
  refine ⟨zq_k_u2 180 (fun z => .getfield z) 81 h rfl (zq_o_180 _) (by decide +kernel), ?_⟩
  replace h := zq_nx3 (q := 190) h rfl
  refine ⟨zq_k_n 3 h rfl (zq_o_3 _), ?_⟩
  replace h := zq_nx1 (q := 191) h rfl
  refine ⟨zq_k_n 46 h rfl (zq_o_46 _), ?_⟩
  replace h := zq_nx1 (q := 192) h rfl
  refine ⟨zq_k_n 172 h rfl (zq_o_172 _), ?_⟩
  replace h := zq_nx1 (q := 193) h rfl
  refine ⟨zq_k_n 29 h rfl (zq_o_29 _), ?_⟩
  replace h := zq_nx1 (q := 194) h rfl
  refine ⟨zq_k_n 172 h rfl (zq_o_172 _), ?_⟩
  replace h := zq_nx1 (q := 195) h rfl
  refine ⟨zq_k_u1 21 (fun z => .iload z) 4 h rfl (zq_o_21 _) (by decide +kernel), ?_⟩
  replace h := zq_nx2 (q := 197) h rfl
  refine ⟨zq_k_n 172 h rfl (zq_o_172 _), ?_⟩
  replace h := zq_nx1 (q := 198) h rfl
  refine ⟨zq_k_n 2 h rfl (zq_o_2 _), ?_⟩
  replace h := zq_nx1 (q := 199) h rfl
  exact zq_k_n 172 h rfl (zq_o_172 _)
def f_M_count_50b (rec50 : Nat → Int32 → Int32 → Int32 → Int32 → Int32 → mH → Option (Int32 × mH)) (b0 : Nat) (b1 : Int32) (b2 : Int32) (b3 : Int32) (b4 : Int32) (b5 : Int32) (h : mH) : Option (Int32 × mH) :=
  bd1 (gI h b0 8 2) fun x13 =>
  if x13 ≤ b5 then
    if b1 = (0 : Int32) then
      bd1 (gR h b0 8 0) fun x16 =>
      bd1 (aI h 0 x16 (10 : Int32)) fun x18 =>
      bd2 (f_M_bitsOf x18 h) fun x22 h20 =>
      some (x22, h20)
    else
    if b1 = (1 : Int32) then
      some (b2, h)
    else
    if b1 = (2 : Int32) then
      bd1 (gR h b0 8 0) fun x25 =>
      bd1 (aI h 0 x25 (41 : Int32)) fun x27 =>
      some (x27, h)
    else
    if b1 = (3 : Int32) then
      bd1 (gR h b0 8 1) fun x30 =>
      bd1 (aI h 2 x30 (0 : Int32)) fun x32 =>
      bd2 (f_M_flag x32 h) fun x36 h34 =>
      bd1 (gR h34 b0 8 1) fun x37 =>
      bd1 (aI h34 2 x37 (1 : Int32)) fun x39 =>
      bd2 (f_M_flag x39 h34) fun x43 h41 =>
      some (x36 + x43, h41)
    else
    if b1 = (4 : Int32) then
      bd1 (gI h b0 8 20) fun x45 =>
      some (x45, h)
    else
    if b1 = (5 : Int32) then
      bd1 (gR h b0 8 35) fun x48 =>
      bd1 (aI h 0 x48 (0 : Int32)) fun x50 =>
      if x50 = ((-4) : Int32) then
        some (((-4) : Int32), h)
      else
        bd1 (gR h b0 8 36) fun x52 =>
        bd1 (aI h 0 x52 (0 : Int32)) fun x54 =>
        some (x54, h)
    else
    if b1 = (6 : Int32) then
      some (b3, h)
    else
    if b1 = (7 : Int32) then
      some (b4, h)
    else
    some (((-1) : Int32), h)
  else
    bd1 (kC h b0 8) fun _ =>
    bd2 (f_M_needOf b0 b5 h) fun x63 h61 =>
    rec50 b0 b1 b2 b3 (b4 + x63) (b5 + (1 : Int32)) h61
set_option maxRecDepth 20000 in
theorem t_M_count_50b {sc : Nat × (Nat → Int32)} (rec50 : Nat → Int32 → Int32 → Int32 → Int32 → Int32 → mH → Option (Int32 × mH)) (hrec50 : ∀ (b0 : Nat) (b1 : Int32) (b2 : Int32) (b3 : Int32) (b4 : Int32) (b5 : Int32) (h : mH) (r : Int32) (h' : mH), rec50 b0 b1 b2 b3 b4 b5 h = some (r, h') → G sc y_M_count prog_10_method_91_code 6 (some .int) 2 45 50 [(0, .ref b0), (1, .int b1), (2, .int b2), (3, .int b3), (4, .int b4), (5, .int b5)] [] h (some (.int r)) h') (b0 : Nat) (b1 : Int32) (b2 : Int32) (b3 : Int32) (b4 : Int32) (b5 : Int32) (h : mH) (r : Int32) (h' : mH) (hf : f_M_count_50b rec50 b0 b1 b2 b3 b4 b5 h = some (r, h')) : G sc y_M_count prog_10_method_91_code 6 (some .int) 2 45 50 [(0, .ref b0), (1, .int b1), (2, .int b2), (3, .int b3), (4, .int b4), (5, .int b5)] [] h (some (.int r)) h' := by
  unfold f_M_count_50b at hf
  refine g_iload (pc := 50) 5 dd_M_count_38.2.2.2.2.2.2.2.1 rfl ?_
  refine g_aload_n (pc := 52) 0 dd_M_count_38.2.2.2.2.2.2.2.2.1 rfl rfl ?_
  obtain ⟨x13, e14, hf⟩ := bd1_e hf
  refine g_get (pc := 53) (ci := 8) (kk := 2) dd_M_count_38.2.2.2.2.2.2.2.2.2.1 rfl in_M (by decide) wd_940 (gI_spec e14) ?_
  refine g_icmpge (pc := 56) 76 dd_M_count_38.2.2.2.2.2.2.2.2.2.2.1 (by decide) (fun c64 => ?_) (fun c64 => ?_)
  · replace hf := (if_pos c64).symm.trans hf
    refine g_iload_n (pc := 76) 1 dd_M_count_38.2.2.2.2.2.2.2.2.2.2.2.2.2.2.2.2.2.2.2.1 rfl rfl ?_
    by_cases c15 : b1 = (0 : Int32)
    · replace hf := (if_pos c15).symm.trans hf
      refine g_tabIn (pc := 77) 124 (0 : Int32) dd_M_count_38.2.2.2.2.2.2.2.2.2.2.2.2.2.2.2.2.2.2.2.2.1 c15 (by decide) (by decide) rfl (by decide) ?_
      refine g_aload_n (pc := 124) 0 dd_M_count_38.2.2.2.2.2.2.2.2.2.2.2.2.2.2.2.2.2.2.2.2.2.1 rfl rfl ?_
      obtain ⟨x16, e17, hf⟩ := bd1_e hf
      refine g_get (pc := 125) (ci := 8) (kk := 0) dd_M_count_38.2.2.2.2.2.2.2.2.2.2.2.2.2.2.2.2.2.2.2.2.2.2.1 rfl in_M (by decide) wd_938 (gR_spec e17) ?_
      refine g_bipush (pc := 128) (10 : Int32) dd_M_count_38.2.2.2.2.2.2.2.2.2.2.2.2.2.2.2.2.2.2.2.2.2.2.2 (by decide) ?_
      obtain ⟨x18, e19, hf⟩ := bd1_e hf
      refine g_iald (pc := 130) dd_M_count_130.1 e19 ?_
      obtain ⟨x22, h20, e21, hf⟩ := bd2_e hf
      refine g_callS (pc := 131) [.int x18] (site_of si_M_bitsOf (by decide) (by decide)) wd_1230 wd_1231 dd_M_count_130.2.1 (Nat.le_of_ble_eq_true rfl) (fun z => absurd z si_na_M_bitsOf) (fun z => absurd z si_na_M_bitsOf) (fun z => absurd z si_na_M_bitsOf) (c_M_bitsOf e21) rfl ?_
      refine g_st [.int x22] rfl ?_
      obtain ⟨rfl, rfl⟩ := ret2 hf
      exact g_iret (pc := 134) rfl dd_M_count_130.2.2.1
    replace hf := (if_neg c15).symm.trans hf
    by_cases c23 : b1 = (1 : Int32)
    · replace hf := (if_pos c23).symm.trans hf
      refine g_tabIn (pc := 77) 135 (1 : Int32) dd_M_count_38.2.2.2.2.2.2.2.2.2.2.2.2.2.2.2.2.2.2.2.2.1 c23 (by decide) (by decide) rfl (by decide) ?_
      refine g_iload_n (pc := 135) 2 dd_M_count_130.2.2.2.1 rfl rfl ?_
      obtain ⟨rfl, rfl⟩ := ret2 hf
      exact g_iret (pc := 136) rfl dd_M_count_130.2.2.2.2.1
    replace hf := (if_neg c23).symm.trans hf
    by_cases c24 : b1 = (2 : Int32)
    · replace hf := (if_pos c24).symm.trans hf
      refine g_tabIn (pc := 77) 137 (2 : Int32) dd_M_count_38.2.2.2.2.2.2.2.2.2.2.2.2.2.2.2.2.2.2.2.2.1 c24 (by decide) (by decide) rfl (by decide) ?_
      refine g_aload_n (pc := 137) 0 dd_M_count_130.2.2.2.2.2.1 rfl rfl ?_
      obtain ⟨x25, e26, hf⟩ := bd1_e hf
      refine g_get (pc := 138) (ci := 8) (kk := 0) dd_M_count_130.2.2.2.2.2.2.1 rfl in_M (by decide) wd_938 (gR_spec e26) ?_
      refine g_bipush (pc := 141) (41 : Int32) dd_M_count_130.2.2.2.2.2.2.2.1 (by decide) ?_
      obtain ⟨x27, e28, hf⟩ := bd1_e hf
      refine g_iald (pc := 143) dd_M_count_130.2.2.2.2.2.2.2.2.1 e28 ?_
      obtain ⟨rfl, rfl⟩ := ret2 hf
      exact g_iret (pc := 144) rfl dd_M_count_130.2.2.2.2.2.2.2.2.2.1
    replace hf := (if_neg c24).symm.trans hf
    by_cases c29 : b1 = (3 : Int32)
    · replace hf := (if_pos c29).symm.trans hf
      refine g_tabIn (pc := 77) 145 (3 : Int32) dd_M_count_38.2.2.2.2.2.2.2.2.2.2.2.2.2.2.2.2.2.2.2.2.1 c29 (by decide) (by decide) rfl (by decide) ?_
      refine g_aload_n (pc := 145) 0 dd_M_count_130.2.2.2.2.2.2.2.2.2.2.1 rfl rfl ?_
      obtain ⟨x30, e31, hf⟩ := bd1_e hf
      refine g_get (pc := 146) (ci := 8) (kk := 1) dd_M_count_130.2.2.2.2.2.2.2.2.2.2.2.1 rfl in_M (by decide) wd_939 (gR_spec e31) ?_
      refine g_iconst (pc := 149) (0 : Int32) dd_M_count_130.2.2.2.2.2.2.2.2.2.2.2.2.1 (by decide) ?_
      obtain ⟨x32, e33, hf⟩ := bd1_e hf
      refine g_zald (pc := 150) dd_M_count_130.2.2.2.2.2.2.2.2.2.2.2.2.2.1 e33 ?_
      obtain ⟨x36, h34, e35, hf⟩ := bd2_e hf
      refine g_callS (pc := 151) [.int x32] (site_of si_M_flag (by decide) (by decide)) wd_1180 wd_1181 dd_M_count_130.2.2.2.2.2.2.2.2.2.2.2.2.2.2.1 (Nat.le_of_ble_eq_true rfl) (fun z => absurd z si_na_M_flag) (fun z => absurd z si_na_M_flag) (fun z => absurd z si_na_M_flag) (c_M_flag e35) rfl ?_
      refine g_st [.int x36] rfl ?_
      refine g_aload_n (pc := 154) 0 dd_M_count_130.2.2.2.2.2.2.2.2.2.2.2.2.2.2.2.1 rfl rfl ?_
      obtain ⟨x37, e38, hf⟩ := bd1_e hf
      refine g_get (pc := 155) (ci := 8) (kk := 1) dd_M_count_130.2.2.2.2.2.2.2.2.2.2.2.2.2.2.2.2.1 rfl in_M (by decide) wd_939 (gR_spec e38) ?_
      refine g_iconst (pc := 158) (1 : Int32) dd_M_count_130.2.2.2.2.2.2.2.2.2.2.2.2.2.2.2.2.2.1 (by decide) ?_
      obtain ⟨x39, e40, hf⟩ := bd1_e hf
      refine g_zald (pc := 159) dd_M_count_130.2.2.2.2.2.2.2.2.2.2.2.2.2.2.2.2.2.2.1 e40 ?_
      obtain ⟨x43, h41, e42, hf⟩ := bd2_e hf
      refine g_callS (pc := 160) [.int x39] (site_of si_M_flag (by decide) (by decide)) wd_1180 wd_1181 dd_M_count_130.2.2.2.2.2.2.2.2.2.2.2.2.2.2.2.2.2.2.2.1 (Nat.le_of_ble_eq_true rfl) (fun z => absurd z si_na_M_flag) (fun z => absurd z si_na_M_flag) (fun z => absurd z si_na_M_flag) (c_M_flag e42) rfl ?_
      refine g_st [.int x43, .int x36] rfl ?_
      refine g_iadd (pc := 163) dd_M_count_130.2.2.2.2.2.2.2.2.2.2.2.2.2.2.2.2.2.2.2.2.1 ?_
      obtain ⟨rfl, rfl⟩ := ret2 hf
      exact g_iret (pc := 164) rfl dd_M_count_130.2.2.2.2.2.2.2.2.2.2.2.2.2.2.2.2.2.2.2.2.2.1
    replace hf := (if_neg c29).symm.trans hf
    by_cases c44 : b1 = (4 : Int32)
    · replace hf := (if_pos c44).symm.trans hf
      refine g_tabIn (pc := 77) 165 (4 : Int32) dd_M_count_38.2.2.2.2.2.2.2.2.2.2.2.2.2.2.2.2.2.2.2.2.1 c44 (by decide) (by decide) rfl (by decide) ?_
      refine g_aload_n (pc := 165) 0 dd_M_count_130.2.2.2.2.2.2.2.2.2.2.2.2.2.2.2.2.2.2.2.2.2.2.1 rfl rfl ?_
      obtain ⟨x45, e46, hf⟩ := bd1_e hf
      refine g_get (pc := 166) (ci := 8) (kk := 20) dd_M_count_130.2.2.2.2.2.2.2.2.2.2.2.2.2.2.2.2.2.2.2.2.2.2.2 rfl in_M (by decide) wd_958 (gI_spec e46) ?_
      obtain ⟨rfl, rfl⟩ := ret2 hf
      exact g_iret (pc := 169) rfl dd_M_count_169.1
    replace hf := (if_neg c44).symm.trans hf
    by_cases c47 : b1 = (5 : Int32)
    · replace hf := (if_pos c47).symm.trans hf
      refine g_tabIn (pc := 77) 170 (5 : Int32) dd_M_count_38.2.2.2.2.2.2.2.2.2.2.2.2.2.2.2.2.2.2.2.2.1 c47 (by decide) (by decide) rfl (by decide) ?_
      refine g_aload_n (pc := 170) 0 dd_M_count_169.2.1 rfl rfl ?_
      obtain ⟨x48, e49, hf⟩ := bd1_e hf
      refine g_get (pc := 171) (ci := 8) (kk := 35) dd_M_count_169.2.2.1 rfl in_M (by decide) wd_973 (gR_spec e49) ?_
      refine g_iconst (pc := 174) (0 : Int32) dd_M_count_169.2.2.2.1 (by decide) ?_
      obtain ⟨x50, e51, hf⟩ := bd1_e hf
      refine g_iald (pc := 175) dd_M_count_169.2.2.2.2.1 e51 ?_
      refine g_bipush (pc := 176) ((-4) : Int32) dd_M_count_169.2.2.2.2.2.1 (by decide) ?_
      refine g_icmpne (pc := 178) 186 dd_M_count_169.2.2.2.2.2.2.1 (by decide) (fun c56 => ?_) (fun c56 => ?_)
      · replace hf := (if_neg c56).symm.trans hf
        refine g_aload_n (pc := 186) 0 dd_M_count_169.2.2.2.2.2.2.2.2.2.1 rfl rfl ?_
        obtain ⟨x52, e53, hf⟩ := bd1_e hf
        refine g_get (pc := 187) (ci := 8) (kk := 36) dd_M_count_169.2.2.2.2.2.2.2.2.2.2.1 rfl in_M (by decide) wd_974 (gR_spec e53) ?_
        refine g_iconst (pc := 190) (0 : Int32) dd_M_count_169.2.2.2.2.2.2.2.2.2.2.2.1 (by decide) ?_
        obtain ⟨x54, e55, hf⟩ := bd1_e hf
        refine g_iald (pc := 191) dd_M_count_169.2.2.2.2.2.2.2.2.2.2.2.2.1 e55 ?_
        obtain ⟨rfl, rfl⟩ := ret2 hf
        exact g_iret (pc := 192) rfl dd_M_count_169.2.2.2.2.2.2.2.2.2.2.2.2.2.1
      · replace hf := (if_pos c56).symm.trans hf
        refine g_bipush (pc := 181) ((-4) : Int32) dd_M_count_169.2.2.2.2.2.2.2.1 (by decide) ?_
        refine g_goto (pc := 183) 192 dd_M_count_169.2.2.2.2.2.2.2.2.1 (by decide) ?_
        obtain ⟨rfl, rfl⟩ := ret2 hf
        exact g_iret (pc := 192) rfl dd_M_count_169.2.2.2.2.2.2.2.2.2.2.2.2.2.1
    replace hf := (if_neg c47).symm.trans hf
    by_cases c57 : b1 = (6 : Int32)
    · replace hf := (if_pos c57).symm.trans hf
      refine g_tabIn (pc := 77) 193 (6 : Int32) dd_M_count_38.2.2.2.2.2.2.2.2.2.2.2.2.2.2.2.2.2.2.2.2.1 c57 (by decide) (by decide) rfl (by decide) ?_
      refine g_iload_n (pc := 193) 3 dd_M_count_169.2.2.2.2.2.2.2.2.2.2.2.2.2.2.1 rfl rfl ?_
      obtain ⟨rfl, rfl⟩ := ret2 hf
      exact g_iret (pc := 194) rfl dd_M_count_169.2.2.2.2.2.2.2.2.2.2.2.2.2.2.2.1
    replace hf := (if_neg c57).symm.trans hf
    by_cases c58 : b1 = (7 : Int32)
    · replace hf := (if_pos c58).symm.trans hf
      refine g_tabIn (pc := 77) 195 (7 : Int32) dd_M_count_38.2.2.2.2.2.2.2.2.2.2.2.2.2.2.2.2.2.2.2.2.1 c58 (by decide) (by decide) rfl (by decide) ?_
      refine g_iload (pc := 195) 4 dd_M_count_169.2.2.2.2.2.2.2.2.2.2.2.2.2.2.2.2.1 rfl ?_
      obtain ⟨rfl, rfl⟩ := ret2 hf
      exact g_iret (pc := 197) rfl dd_M_count_169.2.2.2.2.2.2.2.2.2.2.2.2.2.2.2.2.2.1
    replace hf := (if_neg c58).symm.trans hf
    refine g_tabOut (pc := 77) 198 8 dd_M_count_38.2.2.2.2.2.2.2.2.2.2.2.2.2.2.2.2.2.2.2.2.1 (by decide) (fun i hi => ?_) (by decide) ?_
    · rcases (show i = 0 ∨ i = 1 ∨ i = 2 ∨ i = 3 ∨ i = 4 ∨ i = 5 ∨ i = 6 ∨ i = 7 by omega) with rfl | rfl | rfl | rfl | rfl | rfl | rfl | rfl
      · exact c15
      · exact c23
      · exact c24
      · exact c29
      · exact c44
      · exact c47
      · exact c57
      · exact c58
    refine g_iconst (pc := 198) ((-1) : Int32) dd_M_count_169.2.2.2.2.2.2.2.2.2.2.2.2.2.2.2.2.2.2.1 (by decide) ?_
    obtain ⟨rfl, rfl⟩ := ret2 hf
    exact g_iret (pc := 199) rfl dd_M_count_169.2.2.2.2.2.2.2.2.2.2.2.2.2.2.2.2.2.2.2
  · replace hf := (if_neg c64).symm.trans hf
    refine g_iload (pc := 59) 4 dd_M_count_38.2.2.2.2.2.2.2.2.2.2.2.1 rfl ?_
    refine g_aload_n (pc := 61) 0 dd_M_count_38.2.2.2.2.2.2.2.2.2.2.2.2.1 rfl rfl ?_
    refine g_iload (pc := 62) 5 dd_M_count_38.2.2.2.2.2.2.2.2.2.2.2.2.2.1 rfl ?_
    obtain ⟨u60, e59, hf⟩ := bd1_e hf
    obtain ⟨x63, h61, e62, hf⟩ := bd2_e hf
    refine g_callV (pc := 64) (ci := 8) [.int b5] (site_of si_M_needOf (by decide) (by decide)) wd_1140 wd_1142 wp_45 dd_M_count_38.2.2.2.2.2.2.2.2.2.2.2.2.2.2.1 rfl e59 (Nat.le_of_ble_eq_true rfl) (fun z => absurd z si_na_M_needOf) (fun z => absurd z si_na_M_needOf) (fun z => absurd z si_na_M_needOf) (c_M_needOf e62) rfl ?_
    refine g_st [.int x63, .int b4] rfl ?_
    refine g_iadd (pc := 67) dd_M_count_38.2.2.2.2.2.2.2.2.2.2.2.2.2.2.2.1 ?_
    refine g_istore (pc := 68) [(4, .int (b4 + x63)), (0, .ref b0), (1, .int b1), (2, .int b2), (3, .int b3), (5, .int b5)] dd_M_count_38.2.2.2.2.2.2.2.2.2.2.2.2.2.2.2.2.1 (Nat.le_of_ble_eq_true rfl) rfl ?_
    refine g_iinc (pc := 70) 5 (b5 + (1 : Int32)) [(5, .int (b5 + (1 : Int32))), (4, .int (b4 + x63)), (0, .ref b0), (1, .int b1), (2, .int b2), (3, .int b3)] dd_M_count_38.2.2.2.2.2.2.2.2.2.2.2.2.2.2.2.2.2.1 rfl rfl (Nat.le_of_ble_eq_true rfl) rfl ?_
    refine g_goto (pc := 73) 50 dd_M_count_38.2.2.2.2.2.2.2.2.2.2.2.2.2.2.2.2.2.2.1 (by decide) ?_
    refine g_lv [2, 3, 4, 5, 1, 0] rfl ?_
    exact hrec50 _ _ _ _ _ _ _ _ _  hf
def f_M_count_50  : Nat → Nat → Int32 → Int32 → Int32 → Int32 → Int32 → mH → Option (Int32 × mH)
  | 0 => fun _ _ _ _ _ _ _ => none
  | n + 1 => f_M_count_50b  (f_M_count_50  n)
theorem t_M_count_50 {sc : Nat × (Nat → Int32)}  : ∀ (n : Nat) (b0 : Nat) (b1 : Int32) (b2 : Int32) (b3 : Int32) (b4 : Int32) (b5 : Int32) (h : mH) (r : Int32) (h' : mH) (hf : f_M_count_50  n b0 b1 b2 b3 b4 b5 h = some (r, h')), G sc y_M_count prog_10_method_91_code 6 (some .int) 2 45 50 [(0, .ref b0), (1, .int b1), (2, .int b2), (3, .int b3), (4, .int b4), (5, .int b5)] [] h (some (.int r)) h'
  | 0, _, _, _, _, _, _, _, _, _, hf => by cases hf
  | n + 1, _, _, _, _, _, _, _, _, _, hf => t_M_count_50b  (f_M_count_50  n) (t_M_count_50  n) _ _ _ _ _ _ _ _ _ hf
def f_M_count_10b (rec10 : Nat → Int32 → Int32 → Int32 → Int32 → Int32 → mH → Option (Int32 × mH)) (b0 : Nat) (b1 : Int32) (b2 : Int32) (b3 : Int32) (b4 : Int32) (b5 : Int32) (h : mH) : Option (Int32 × mH) :=
  bd1 (gI h b0 8 3) fun x1 =>
  if x1 ≤ b5 then
    f_M_count_50  FU b0 b1 b2 b3 b4 (0 : Int32) h
  else
    bd1 (kC h b0 8) fun _ =>
    bd2 (f_M_allBy b0 b5 h) fun x7 h5 =>
    bd1 (gR h5 b0 8 0) fun x8 =>
    bd1 (aI h5 0 x8 ((15 : Int32) + b5)) fun x10 =>
    rec10 b0 b1 (b2 + x7) (b3 + x10) b4 (b5 + (1 : Int32)) h5
set_option maxRecDepth 20000 in
theorem t_M_count_10b {sc : Nat × (Nat → Int32)} (rec10 : Nat → Int32 → Int32 → Int32 → Int32 → Int32 → mH → Option (Int32 × mH)) (hrec10 : ∀ (b0 : Nat) (b1 : Int32) (b2 : Int32) (b3 : Int32) (b4 : Int32) (b5 : Int32) (h : mH) (r : Int32) (h' : mH), rec10 b0 b1 b2 b3 b4 b5 h = some (r, h') → G sc y_M_count prog_10_method_91_code 6 (some .int) 2 45 10 [(0, .ref b0), (1, .int b1), (2, .int b2), (3, .int b3), (4, .int b4), (5, .int b5)] [] h (some (.int r)) h') (b0 : Nat) (b1 : Int32) (b2 : Int32) (b3 : Int32) (b4 : Int32) (b5 : Int32) (h : mH) (r : Int32) (h' : mH) (hf : f_M_count_10b rec10 b0 b1 b2 b3 b4 b5 h = some (r, h')) : G sc y_M_count prog_10_method_91_code 6 (some .int) 2 45 10 [(0, .ref b0), (1, .int b1), (2, .int b2), (3, .int b3), (4, .int b4), (5, .int b5)] [] h (some (.int r)) h' := by
  unfold f_M_count_10b at hf
  refine g_iload (pc := 10) 5 dd_M_count_0.2.2.2.2.2.2.2.2.1 rfl ?_
  refine g_aload_n (pc := 12) 0 dd_M_count_0.2.2.2.2.2.2.2.2.2.1 rfl rfl ?_
  obtain ⟨x1, e2, hf⟩ := bd1_e hf
  refine g_get (pc := 13) (ci := 8) (kk := 3) dd_M_count_0.2.2.2.2.2.2.2.2.2.2.1 rfl in_M (by decide) wd_941 (gI_spec e2) ?_
  refine g_icmpge (pc := 16) 47 dd_M_count_0.2.2.2.2.2.2.2.2.2.2.2.1 (by decide) (fun c12 => ?_) (fun c12 => ?_)
  · replace hf := (if_pos c12).symm.trans hf
    refine g_iconst (pc := 47) (0 : Int32) dd_M_count_38.2.2.2.2.2.1 (by decide) ?_
    refine g_istore (pc := 48) [(5, .int (0 : Int32)), (0, .ref b0), (1, .int b1), (2, .int b2), (3, .int b3), (4, .int b4)] dd_M_count_38.2.2.2.2.2.2.1 (Nat.le_of_ble_eq_true rfl) rfl ?_
    refine g_lv [1, 2, 3, 4, 5, 0] rfl ?_
    exact t_M_count_50  FU _ _ _ _ _ _ _ _ _  hf
  · replace hf := (if_neg c12).symm.trans hf
    refine g_iload_n (pc := 19) 2 dd_M_count_0.2.2.2.2.2.2.2.2.2.2.2.2.1 rfl rfl ?_
    refine g_aload_n (pc := 20) 0 dd_M_count_0.2.2.2.2.2.2.2.2.2.2.2.2.2.1 rfl rfl ?_
    refine g_iload (pc := 21) 5 dd_M_count_0.2.2.2.2.2.2.2.2.2.2.2.2.2.2.1 rfl ?_
    obtain ⟨u4, e3, hf⟩ := bd1_e hf
    obtain ⟨x7, h5, e6, hf⟩ := bd2_e hf
    refine g_callV (pc := 23) (ci := 8) [.int b5] (site_of si_M_allBy (by decide) (by decide)) wd_1176 wd_1178 wp_53 dd_M_count_0.2.2.2.2.2.2.2.2.2.2.2.2.2.2.2.1 rfl e3 (Nat.le_of_ble_eq_true rfl) (fun z => absurd z si_na_M_allBy) (fun z => absurd z si_na_M_allBy) (fun z => absurd z si_na_M_allBy) (c_M_allBy e6) rfl ?_
    refine g_st [.int x7, .int b2] rfl ?_
    refine g_iadd (pc := 26) dd_M_count_0.2.2.2.2.2.2.2.2.2.2.2.2.2.2.2.2.1 ?_
    refine g_istore_n (pc := 27) [(2, .int (b2 + x7)), (0, .ref b0), (1, .int b1), (3, .int b3), (4, .int b4), (5, .int b5)] dd_M_count_0.2.2.2.2.2.2.2.2.2.2.2.2.2.2.2.2.2.1 rfl (Nat.le_of_ble_eq_true rfl) rfl ?_
    refine g_iload_n (pc := 28) 3 dd_M_count_0.2.2.2.2.2.2.2.2.2.2.2.2.2.2.2.2.2.2.1 rfl rfl ?_
    refine g_aload_n (pc := 29) 1 dd_M_count_0.2.2.2.2.2.2.2.2.2.2.2.2.2.2.2.2.2.2.2.1 rfl rfl ?_
    obtain ⟨x8, e9, hf⟩ := bd1_e hf
    refine g_get (pc := 30) (ci := 8) (kk := 0) dd_M_count_0.2.2.2.2.2.2.2.2.2.2.2.2.2.2.2.2.2.2.2.2.1 rfl in_M (by decide) wd_938 (gR_spec e9) ?_
    refine g_bipush (pc := 33) (15 : Int32) dd_M_count_0.2.2.2.2.2.2.2.2.2.2.2.2.2.2.2.2.2.2.2.2.2.1 (by decide) ?_
    refine g_iload (pc := 35) 5 dd_M_count_0.2.2.2.2.2.2.2.2.2.2.2.2.2.2.2.2.2.2.2.2.2.2.1 rfl ?_
    refine g_iadd (pc := 37) dd_M_count_0.2.2.2.2.2.2.2.2.2.2.2.2.2.2.2.2.2.2.2.2.2.2.2 ?_
    obtain ⟨x10, e11, hf⟩ := bd1_e hf
    refine g_iald (pc := 38) dd_M_count_38.1 e11 ?_
    refine g_iadd (pc := 39) dd_M_count_38.2.1 ?_
    refine g_istore_n (pc := 40) [(3, .int (b3 + x10)), (2, .int (b2 + x7)), (0, .ref b0), (1, .int b1), (4, .int b4), (5, .int b5)] dd_M_count_38.2.2.1 rfl (Nat.le_of_ble_eq_true rfl) rfl ?_
    refine g_iinc (pc := 41) 5 (b5 + (1 : Int32)) [(5, .int (b5 + (1 : Int32))), (3, .int (b3 + x10)), (2, .int (b2 + x7)), (0, .ref b0), (1, .int b1), (4, .int b4)] dd_M_count_38.2.2.2.1 rfl rfl (Nat.le_of_ble_eq_true rfl) rfl ?_
    refine g_goto (pc := 44) 10 dd_M_count_38.2.2.2.2.1 (by decide) ?_
    refine g_lv [3, 4, 2, 1, 5, 0] rfl ?_
    exact hrec10 _ _ _ _ _ _ _ _ _  hf
def f_M_count_10  : Nat → Nat → Int32 → Int32 → Int32 → Int32 → Int32 → mH → Option (Int32 × mH)
  | 0 => fun _ _ _ _ _ _ _ => none
  | n + 1 => f_M_count_10b  (f_M_count_10  n)
theorem t_M_count_10 {sc : Nat × (Nat → Int32)}  : ∀ (n : Nat) (b0 : Nat) (b1 : Int32) (b2 : Int32) (b3 : Int32) (b4 : Int32) (b5 : Int32) (h : mH) (r : Int32) (h' : mH) (hf : f_M_count_10  n b0 b1 b2 b3 b4 b5 h = some (r, h')), G sc y_M_count prog_10_method_91_code 6 (some .int) 2 45 10 [(0, .ref b0), (1, .int b1), (2, .int b2), (3, .int b3), (4, .int b4), (5, .int b5)] [] h (some (.int r)) h'
  | 0, _, _, _, _, _, _, _, _, _, hf => by cases hf
  | n + 1, _, _, _, _, _, _, _, _, _, hf => t_M_count_10b  (f_M_count_10  n) (t_M_count_10  n) _ _ _ _ _ _ _ _ _ hf
def f_M_count_0  (a0 : Nat) (a1 : Int32) (h : mH) : Option (Int32 × mH) :=
  f_M_count_10  FU a0 a1 (0 : Int32) (0 : Int32) (0 : Int32) (0 : Int32) h
set_option maxRecDepth 20000 in
theorem t_M_count_0 {sc : Nat × (Nat → Int32)}  (a0 : Nat) (a1 : Int32) (h : mH) (r : Int32) (h' : mH) (hf : f_M_count_0  a0 a1 h = some (r, h')) : G sc y_M_count prog_10_method_91_code 6 (some .int) 2 45 0 [(0, .ref a0), (1, .int a1)] [] h (some (.int r)) h' := by
  unfold f_M_count_0 at hf
  refine g_iconst (pc := 0) (0 : Int32) dd_M_count_0.1 (by decide) ?_
  refine g_istore_n (pc := 1) [(2, .int (0 : Int32)), (0, .ref a0), (1, .int a1)] dd_M_count_0.2.1 rfl (Nat.le_of_ble_eq_true rfl) rfl ?_
  refine g_iconst (pc := 2) (0 : Int32) dd_M_count_0.2.2.1 (by decide) ?_
  refine g_istore_n (pc := 3) [(3, .int (0 : Int32)), (2, .int (0 : Int32)), (0, .ref a0), (1, .int a1)] dd_M_count_0.2.2.2.1 rfl (Nat.le_of_ble_eq_true rfl) rfl ?_
  refine g_iconst (pc := 4) (0 : Int32) dd_M_count_0.2.2.2.2.1 (by decide) ?_
  refine g_istore (pc := 5) [(4, .int (0 : Int32)), (3, .int (0 : Int32)), (2, .int (0 : Int32)), (0, .ref a0), (1, .int a1)] dd_M_count_0.2.2.2.2.2.1 (Nat.le_of_ble_eq_true rfl) rfl ?_
  refine g_iconst (pc := 7) (0 : Int32) dd_M_count_0.2.2.2.2.2.2.1 (by decide) ?_
  refine g_istore (pc := 8) [(5, .int (0 : Int32)), (4, .int (0 : Int32)), (3, .int (0 : Int32)), (2, .int (0 : Int32)), (0, .ref a0), (1, .int a1)] dd_M_count_0.2.2.2.2.2.2.2.1 (Nat.le_of_ble_eq_true rfl) rfl ?_
  refine g_lv [4, 5, 3, 2, 1, 0] rfl ?_
  exact t_M_count_10  FU _ _ _ _ _ _ _ _ _  hf
def f_M_count (a0 : Nat) (a1 : Int32) (h : mH) : Option (Int32 × mH) := f_M_count_0 a0 a1 h
theorem c_M_count {sc : Nat × (Nat → Int32)} {a0 : Nat} {a1 : Int32} {h : mH} {r : Int32} {h' : mH} (hf : f_M_count a0 a1 h = some (r, h')) : MM sc y_M_count prog_10_method_91_code 6 (some .int) 2 45 [.ref a0, .int a1] h (some (.int r)) h' :=
  mm_of_G si_pn_M (Nat.le_of_ble_eq_true rfl) (t_M_count_0 _ _ _ _ _ hf)
end
