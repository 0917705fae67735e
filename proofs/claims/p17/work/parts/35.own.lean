/-! Q count (I)I -/
set_option maxRecDepth 100000 in
theorem dd_Q_count_0 : (decode prog_1_method_39_code 0 = .ok (.iload_n 1, 1)) ∧ (decode prog_1_method_39_code 1 = .ok (.tableswitch 116 0 7 #[47, 58, 66, 77, 82, 90, 100, 108], 47)) ∧ (decode prog_1_method_39_code 48 = .ok (.aload_n 0, 1)) ∧ (decode prog_1_method_39_code 49 = .ok (.getfield 19, 3)) ∧ (decode prog_1_method_39_code 52 = .ok (.getfield 103, 3)) ∧ (decode prog_1_method_39_code 55 = .ok (.invokestatic 180, 3)) ∧ (decode prog_1_method_39_code 58 = .ok (.ireturn, 1)) ∧ (decode prog_1_method_39_code 59 = .ok (.aload_n 0, 1)) ∧ (decode prog_1_method_39_code 60 = .ok (.getfield 19, 3)) ∧ (decode prog_1_method_39_code 63 = .ok (.invokevirtual 280, 3)) ∧ (decode prog_1_method_39_code 66 = .ok (.ireturn, 1)) ∧ (decode prog_1_method_39_code 67 = .ok (.aload_n 0, 1)) ∧ (decode prog_1_method_39_code 68 = .ok (.getfield 19, 3)) ∧ (decode prog_1_method_39_code 71 = .ok (.getfield 236, 3)) ∧ (decode prog_1_method_39_code 74 = .ok (.getfield 244, 3)) ∧ (decode prog_1_method_39_code 77 = .ok (.ireturn, 1)) ∧ (decode prog_1_method_39_code 78 = .ok (.aload_n 0, 1)) ∧ (decode prog_1_method_39_code 79 = .ok (.invokevirtual 283, 3)) ∧ (decode prog_1_method_39_code 82 = .ok (.ireturn, 1)) ∧ (decode prog_1_method_39_code 83 = .ok (.aload_n 0, 1)) ∧ (decode prog_1_method_39_code 84 = .ok (.getfield 10, 3)) ∧ (decode prog_1_method_39_code 87 = .ok (.getfield 70, 3)) ∧ (decode prog_1_method_39_code 90 = .ok (.ireturn, 1)) ∧ (decode prog_1_method_39_code 91 = .ok (.aload_n 0, 1)) := by
  have h : List.drop 0 prog_1_method_39_code.data.toList = 0x1b :: _ := rfl
  refine ⟨zq_k_n 27 h rfl (zq_o_27 _), ?_⟩
  replace h := zq_nx1 (q := 1) h rfl
  refine ⟨by decide +kernel, ?_⟩
  have h : List.drop 48 prog_1_method_39_code.data.toList = 0x2a :: _ := rfl
  refine ⟨zq_k_n 42 h rfl (zq_o_42 _), ?_⟩
  replace h := zq_nx1 (q := 49) h rfl
  refine ⟨zq_k_u2 180 (fun z => .getfield z) 19 h rfl (zq_o_180 _) (by decide +kernel), ?_⟩
  replace h := zq_nx3 (q := 52) h rfl
  refine ⟨zq_k_u2 180 (fun z => .getfield z) 103 h rfl (zq_o_180 _) (by decide +kernel), ?_⟩
  replace h := zq_nx3 (q := 55) h rfl
  refine ⟨zq_k_u2 184 (fun z => .invokestatic z) 180 h rfl (zq_o_184 _) (by decide +kernel), ?_⟩
  replace h := zq_nx3 (q := 58) h rfl
  refine ⟨zq_k_n 172 h rfl (zq_o_172 _), ?_⟩
  replace h := zq_nx1 (q := 59) h rfl
  refine ⟨zq_k_n 42 h rfl (zq_o_42 _), ?_⟩
  replace h := zq_nx1 (q := 60) h rfl
  refine ⟨zq_k_u2 180 (fun z => .getfield z) 19 h rfl (zq_o_180 _) (by decide +kernel), ?_⟩
  replace h := zq_nx3 (q := 63) h rfl
  refine ⟨zq_k_u2 182 (fun z => .invokevirtual z) 280 h rfl (zq_o_182 _) (by decide +kernel), ?_⟩
  replace h := zq_nx3 (q := 66) h rfl
  refine ⟨zq_k_n 172 h rfl (zq_o_172 _), ?_⟩
  replace h := zq_nx1 (q := 67) h rfl
  refine ⟨zq_k_n 42 h rfl (zq_o_42 _), ?_⟩
  replace h := zq_nx1 (q := 68) h rfl
  refine ⟨zq_k_u2 180 (fun z => .getfield z) 19 h rfl (zq_o_180 _) (by decide +kernel), ?_⟩
  replace h := zq_nx3 (q := 71) h rfl
  refine ⟨zq_k_u2 180 (fun z => .getfield z) 236 h rfl (zq_o_180 _) (by decide +kernel), ?_⟩
  replace h := zq_nx3 (q := 74) h rfl
  refine ⟨zq_k_u2 180 (fun z => .getfield z) 244 h rfl (zq_o_180 _) (by decide +kernel), ?_⟩
  replace h := zq_nx3 (q := 77) h rfl
  refine ⟨zq_k_n 172 h rfl (zq_o_172 _), ?_⟩
  replace h := zq_nx1 (q := 78) h rfl
  refine ⟨zq_k_n 42 h rfl (zq_o_42 _), ?_⟩
  replace h := zq_nx1 (q := 79) h rfl
  refine ⟨zq_k_u2 182 (fun z => .invokevirtual z) 283 h rfl (zq_o_182 _) (by decide +kernel), ?_⟩
  replace h := zq_nx3 (q := 82) h rfl
  refine ⟨zq_k_n 172 h rfl (zq_o_172 _), ?_⟩
  replace h := zq_nx1 (q := 83) h rfl
  refine ⟨zq_k_n 42 h rfl (zq_o_42 _), ?_⟩
  replace h := zq_nx1 (q := 84) h rfl
  refine ⟨zq_k_u2 180 (fun z => .getfield z) 10 h rfl (zq_o_180 _) (by decide +kernel), ?_⟩
  replace h := zq_nx3 (q := 87) h rfl
  refine ⟨zq_k_u2 180 (fun z => .getfield z) 70 h rfl (zq_o_180 _) (by decide +kernel), ?_⟩
  replace h := zq_nx3 (q := 90) h rfl
  refine ⟨zq_k_n 172 h rfl (zq_o_172 _), ?_⟩
  replace h := zq_nx1 (q := 91) h rfl
  exact zq_k_n 42 h rfl (zq_o_42 _)
theorem d_Q_count_0 : decode prog_1_method_39_code 0 = .ok (.iload_n 1, 1) := dd_Q_count_0.1
theorem d_Q_count_1 : decode prog_1_method_39_code 1 = .ok (.tableswitch 116 0 7 #[47, 58, 66, 77, 82, 90, 100, 108], 47) := dd_Q_count_0.2.1
theorem d_Q_count_48 : decode prog_1_method_39_code 48 = .ok (.aload_n 0, 1) := dd_Q_count_0.2.2.1
theorem d_Q_count_49 : decode prog_1_method_39_code 49 = .ok (.getfield 19, 3) := dd_Q_count_0.2.2.2.1
theorem d_Q_count_52 : decode prog_1_method_39_code 52 = .ok (.getfield 103, 3) := dd_Q_count_0.2.2.2.2.1
theorem d_Q_count_55 : decode prog_1_method_39_code 55 = .ok (.invokestatic 180, 3) := dd_Q_count_0.2.2.2.2.2.1
theorem d_Q_count_58 : decode prog_1_method_39_code 58 = .ok (.ireturn, 1) := dd_Q_count_0.2.2.2.2.2.2.1
theorem d_Q_count_59 : decode prog_1_method_39_code 59 = .ok (.aload_n 0, 1) := dd_Q_count_0.2.2.2.2.2.2.2.1
theorem d_Q_count_60 : decode prog_1_method_39_code 60 = .ok (.getfield 19, 3) := dd_Q_count_0.2.2.2.2.2.2.2.2.1
theorem d_Q_count_63 : decode prog_1_method_39_code 63 = .ok (.invokevirtual 280, 3) := dd_Q_count_0.2.2.2.2.2.2.2.2.2.1
theorem d_Q_count_66 : decode prog_1_method_39_code 66 = .ok (.ireturn, 1) := dd_Q_count_0.2.2.2.2.2.2.2.2.2.2.1
theorem d_Q_count_67 : decode prog_1_method_39_code 67 = .ok (.aload_n 0, 1) := dd_Q_count_0.2.2.2.2.2.2.2.2.2.2.2.1
theorem d_Q_count_68 : decode prog_1_method_39_code 68 = .ok (.getfield 19, 3) := dd_Q_count_0.2.2.2.2.2.2.2.2.2.2.2.2.1
theorem d_Q_count_71 : decode prog_1_method_39_code 71 = .ok (.getfield 236, 3) := dd_Q_count_0.2.2.2.2.2.2.2.2.2.2.2.2.2.1
theorem d_Q_count_74 : decode prog_1_method_39_code 74 = .ok (.getfield 244, 3) := dd_Q_count_0.2.2.2.2.2.2.2.2.2.2.2.2.2.2.1
theorem d_Q_count_77 : decode prog_1_method_39_code 77 = .ok (.ireturn, 1) := dd_Q_count_0.2.2.2.2.2.2.2.2.2.2.2.2.2.2.2.1
theorem d_Q_count_78 : decode prog_1_method_39_code 78 = .ok (.aload_n 0, 1) := dd_Q_count_0.2.2.2.2.2.2.2.2.2.2.2.2.2.2.2.2.1
theorem d_Q_count_79 : decode prog_1_method_39_code 79 = .ok (.invokevirtual 283, 3) := dd_Q_count_0.2.2.2.2.2.2.2.2.2.2.2.2.2.2.2.2.2.1
theorem d_Q_count_82 : decode prog_1_method_39_code 82 = .ok (.ireturn, 1) := dd_Q_count_0.2.2.2.2.2.2.2.2.2.2.2.2.2.2.2.2.2.2.1
theorem d_Q_count_83 : decode prog_1_method_39_code 83 = .ok (.aload_n 0, 1) := dd_Q_count_0.2.2.2.2.2.2.2.2.2.2.2.2.2.2.2.2.2.2.2.1
theorem d_Q_count_84 : decode prog_1_method_39_code 84 = .ok (.getfield 10, 3) := dd_Q_count_0.2.2.2.2.2.2.2.2.2.2.2.2.2.2.2.2.2.2.2.2.1
theorem d_Q_count_87 : decode prog_1_method_39_code 87 = .ok (.getfield 70, 3) := dd_Q_count_0.2.2.2.2.2.2.2.2.2.2.2.2.2.2.2.2.2.2.2.2.2.1
theorem d_Q_count_90 : decode prog_1_method_39_code 90 = .ok (.ireturn, 1) := dd_Q_count_0.2.2.2.2.2.2.2.2.2.2.2.2.2.2.2.2.2.2.2.2.2.2.1
theorem d_Q_count_91 : decode prog_1_method_39_code 91 = .ok (.aload_n 0, 1) := dd_Q_count_0.2.2.2.2.2.2.2.2.2.2.2.2.2.2.2.2.2.2.2.2.2.2.2
set_option maxRecDepth 100000 in
theorem dd_Q_count_92 : (decode prog_1_method_39_code 92 = .ok (.getfield 36, 3)) ∧ (decode prog_1_method_39_code 95 = .ok (.iconst 0, 1)) ∧ (decode prog_1_method_39_code 96 = .ok (.aaload, 1)) ∧ (decode prog_1_method_39_code 97 = .ok (.getfield 286, 3)) ∧ (decode prog_1_method_39_code 100 = .ok (.ireturn, 1)) ∧ (decode prog_1_method_39_code 101 = .ok (.aload_n 0, 1)) ∧ (decode prog_1_method_39_code 102 = .ok (.getfield 19, 3)) ∧ (decode prog_1_method_39_code 105 = .ok (.invokevirtual 287, 3)) ∧ (decode prog_1_method_39_code 108 = .ok (.ireturn, 1)) ∧ (decode prog_1_method_39_code 109 = .ok (.aload_n 0, 1)) ∧ (decode prog_1_method_39_code 110 = .ok (.getfield 19, 3)) ∧ (decode prog_1_method_39_code 113 = .ok (.invokevirtual 290, 3)) ∧ (decode prog_1_method_39_code 116 = .ok (.ireturn, 1)) ∧ (decode prog_1_method_39_code 117 = .ok (.iconst (-1), 1)) ∧ (decode prog_1_method_39_code 118 = .ok (.ireturn, 1)) := by
  have h : List.drop 92 prog_1_method_39_code.data.toList = 0xb4 :: _ := rfl
  refine ⟨zq_k_u2 180 (fun z => .getfield z) 36 h rfl (zq_o_180 _) (by decide +kernel), ?_⟩
  replace h := zq_nx3 (q := 95) h rfl
  refine ⟨zq_k_n 3 h rfl (zq_o_3 _), ?_⟩
  replace h := zq_nx1 (q := 96) h rfl
  refine ⟨zq_k_n 50 h rfl (zq_o_50 _), ?_⟩
  replace h := zq_nx1 (q := 97) h rfl
  refine ⟨zq_k_u2 180 (fun z => .getfield z) 286 h rfl (zq_o_180 _) (by decide +kernel), ?_⟩
  replace h := zq_nx3 (q := 100) h rfl
  refine ⟨zq_k_n 172 h rfl (zq_o_172 _), ?_⟩
  replace h := zq_nx1 (q := 101) h rfl
  refine ⟨zq_k_n 42 h rfl (zq_o_42 _), ?_⟩
  replace h := zq_nx1 (q := 102) h rfl
  refine ⟨zq_k_u2 180 (fun z => .getfield z) 19 h rfl (zq_o_180 _) (by decide +kernel), ?_⟩
  replace h := zq_nx3 (q := 105) h rfl
  refine ⟨zq_k_u2 182 (fun z => .invokevirtual z) 287 h rfl (zq_o_182 _) (by decide +kernel), ?_⟩
  replace h := zq_nx3 (q := 108) h rfl
  refine ⟨zq_k_n 172 h rfl (zq_o_172 _), ?_⟩
  replace h := zq_nx1 (q := 109) h rfl
  refine ⟨zq_k_n 42 h rfl (zq_o_42 _), ?_⟩
  replace h := zq_nx1 (q := 110) h rfl
  refine ⟨zq_k_u2 180 (fun z => .getfield z) 19 h rfl (zq_o_180 _) (by decide +kernel), ?_⟩
  replace h := zq_nx3 (q := 113) h rfl
  refine ⟨zq_k_u2 182 (fun z => .invokevirtual z) 290 h rfl (zq_o_182 _) (by decide +kernel), ?_⟩
  replace h := zq_nx3 (q := 116) h rfl
  refine ⟨zq_k_n 172 h rfl (zq_o_172 _), ?_⟩
  replace h := zq_nx1 (q := 117) h rfl
  refine ⟨zq_k_n 2 h rfl (zq_o_2 _), ?_⟩
  replace h := zq_nx1 (q := 118) h rfl
  exact zq_k_n 172 h rfl (zq_o_172 _)
theorem d_Q_count_92 : decode prog_1_method_39_code 92 = .ok (.getfield 36, 3) := dd_Q_count_92.1
theorem d_Q_count_95 : decode prog_1_method_39_code 95 = .ok (.iconst 0, 1) := dd_Q_count_92.2.1
theorem d_Q_count_96 : decode prog_1_method_39_code 96 = .ok (.aaload, 1) := dd_Q_count_92.2.2.1
theorem d_Q_count_97 : decode prog_1_method_39_code 97 = .ok (.getfield 286, 3) := dd_Q_count_92.2.2.2.1
theorem d_Q_count_100 : decode prog_1_method_39_code 100 = .ok (.ireturn, 1) := dd_Q_count_92.2.2.2.2.1
theorem d_Q_count_101 : decode prog_1_method_39_code 101 = .ok (.aload_n 0, 1) := dd_Q_count_92.2.2.2.2.2.1
theorem d_Q_count_102 : decode prog_1_method_39_code 102 = .ok (.getfield 19, 3) := dd_Q_count_92.2.2.2.2.2.2.1
theorem d_Q_count_105 : decode prog_1_method_39_code 105 = .ok (.invokevirtual 287, 3) := dd_Q_count_92.2.2.2.2.2.2.2.1
theorem d_Q_count_108 : decode prog_1_method_39_code 108 = .ok (.ireturn, 1) := dd_Q_count_92.2.2.2.2.2.2.2.2.1
theorem d_Q_count_109 : decode prog_1_method_39_code 109 = .ok (.aload_n 0, 1) := dd_Q_count_92.2.2.2.2.2.2.2.2.2.1
theorem d_Q_count_110 : decode prog_1_method_39_code 110 = .ok (.getfield 19, 3) := dd_Q_count_92.2.2.2.2.2.2.2.2.2.2.1
theorem d_Q_count_113 : decode prog_1_method_39_code 113 = .ok (.invokevirtual 290, 3) := dd_Q_count_92.2.2.2.2.2.2.2.2.2.2.2.1
theorem d_Q_count_116 : decode prog_1_method_39_code 116 = .ok (.ireturn, 1) := dd_Q_count_92.2.2.2.2.2.2.2.2.2.2.2.2.1
theorem d_Q_count_117 : decode prog_1_method_39_code 117 = .ok (.iconst (-1), 1) := dd_Q_count_92.2.2.2.2.2.2.2.2.2.2.2.2.2.1
theorem d_Q_count_118 : decode prog_1_method_39_code 118 = .ok (.ireturn, 1) := dd_Q_count_92.2.2.2.2.2.2.2.2.2.2.2.2.2.2
def f_Q_count_0  (a0 : Nat) (a1 : Int32) (h : mH) : Option (Int32 × mH) :=
  if a1 = (0 : Int32) then
    bd1 (gR h a0 0 1) fun x2 =>
    bd1 (gI h x2 4 4) fun x4 =>
    bd2 (f_Integer_bitCount x4 h) fun x8 h6 =>
    some (x8, h6)
  else
  if a1 = (1 : Int32) then
    bd1 (gR h a0 0 1) fun x10 =>
    bd1 (kC h x10 4) fun _ =>
    bd2 (f_Realm_brokenInAll x10 h) fun x16 h14 =>
    some (x16, h14)
  else
  if a1 = (2 : Int32) then
    bd1 (gR h a0 0 1) fun x18 =>
    bd1 (gR h x18 4 18) fun x20 =>
    bd1 (gI h x20 6 0) fun x22 =>
    some (x22, h)
  else
  if a1 = (3 : Int32) then
    bd1 (kC h a0 0) fun _ =>
    bd2 (f_Q_countKept a0 h) fun x29 h27 =>
    some (x29, h27)
  else
  if a1 = (4 : Int32) then
    bd1 (gR h a0 0 0) fun x31 =>
    bd1 (gI h x31 3 1) fun x33 =>
    some (x33, h)
  else
  if a1 = (5 : Int32) then
    bd1 (gR h a0 0 5) fun x36 =>
    bd1 (aR h 5 x36 (0 : Int32)) fun x38 =>
    bd1 (gI h x38 5 0) fun x40 =>
    some (x40, h)
  else
  if a1 = (6 : Int32) then
    bd1 (gR h a0 0 1) fun x43 =>
    bd1 (kC h x43 4) fun _ =>
    bd2 (f_Realm_allPurses x43 h) fun x49 h47 =>
    some (x49, h47)
  else
  if a1 = (7 : Int32) then
    bd1 (gR h a0 0 1) fun x51 =>
    bd1 (kC h x51 4) fun _ =>
    bd2 (f_Realm_allNeed x51 h) fun x57 h55 =>
    some (x57, h55)
  else
  some (((-1) : Int32), h)
set_option maxRecDepth 20000 in
theorem t_Q_count_0 {sc : Nat × (Nat → Int32)}  (a0 : Nat) (a1 : Int32) (h : mH) (r : Int32) (h' : mH) (hf : f_Q_count_0  a0 a1 h = some (r, h')) : G sc y_Q_count prog_1_method_39_code 2 (some .int) 3 67 0 [(0, .ref a0), (1, .int a1)] [] h (some (.int r)) h' := by
  unfold f_Q_count_0 at hf
  refine g_iload_n (pc := 0) 1 d_Q_count_0 rfl rfl ?_
  by_cases c1 : a1 = (0 : Int32)
  · replace hf := (if_pos c1).symm.trans hf
    refine g_tabIn (pc := 1) 48 (0 : Int32) d_Q_count_1 c1 (by decide) (by decide) rfl (by decide) ?_
    refine g_aload_n (pc := 48) 0 d_Q_count_48 rfl rfl ?_
    obtain ⟨x2, e3, hf⟩ := bd1_e hf
    refine g_get (pc := 49) (ci := 0) (kk := 1) d_Q_count_49 rfl in_Q (by decide) wd_297 (gR_spec e3) ?_
    obtain ⟨x4, e5, hf⟩ := bd1_e hf
    refine g_get (pc := 52) (ci := 4) (kk := 4) d_Q_count_52 rfl in_Realm (by decide) wd_109 (gI_spec e5) ?_
    obtain ⟨x8, h6, e7, hf⟩ := bd2_e hf
    refine g_callS (pc := 55) [.int x4] (site_of si_Integer_bitCount (by decide) (by decide)) wd_615 wd_616 d_Q_count_55 (Nat.le_of_ble_eq_true rfl) (fun z => absurd z (by decide)) (fun z => absurd z (by decide)) (fun z => absurd z (by decide)) (c_Integer_bitCount e7) rfl ?_
    refine g_st [.int x8] rfl ?_
    obtain ⟨rfl, rfl⟩ := ret2 hf
    exact g_iret (pc := 58) rfl d_Q_count_58
  replace hf := (if_neg c1).symm.trans hf
  by_cases c9 : a1 = (1 : Int32)
  · replace hf := (if_pos c9).symm.trans hf
    refine g_tabIn (pc := 1) 59 (1 : Int32) d_Q_count_1 c9 (by decide) (by decide) rfl (by decide) ?_
    refine g_aload_n (pc := 59) 0 d_Q_count_59 rfl rfl ?_
    obtain ⟨x10, e11, hf⟩ := bd1_e hf
    refine g_get (pc := 60) (ci := 0) (kk := 1) d_Q_count_60 rfl in_Q (by decide) wd_297 (gR_spec e11) ?_
    obtain ⟨u13, e12, hf⟩ := bd1_e hf
    obtain ⟨x16, h14, e15, hf⟩ := bd2_e hf
    refine g_callV (pc := 63) (ci := 4) [] (site_of si_Realm_brokenInAll (by decide) (by decide)) wd_908 wd_909 wd_910 d_Q_count_63 rfl e12 (Nat.le_of_ble_eq_true rfl) (fun z => absurd z (by decide)) (fun z => absurd z (by decide)) (fun z => absurd z (by decide)) (c_Realm_brokenInAll e15) rfl ?_
    refine g_st [.int x16] rfl ?_
    obtain ⟨rfl, rfl⟩ := ret2 hf
    exact g_iret (pc := 66) rfl d_Q_count_66
  replace hf := (if_neg c9).symm.trans hf
  by_cases c17 : a1 = (2 : Int32)
  · replace hf := (if_pos c17).symm.trans hf
    refine g_tabIn (pc := 1) 67 (2 : Int32) d_Q_count_1 c17 (by decide) (by decide) rfl (by decide) ?_
    refine g_aload_n (pc := 67) 0 d_Q_count_67 rfl rfl ?_
    obtain ⟨x18, e19, hf⟩ := bd1_e hf
    refine g_get (pc := 68) (ci := 0) (kk := 1) d_Q_count_68 rfl in_Q (by decide) wd_297 (gR_spec e19) ?_
    obtain ⟨x20, e21, hf⟩ := bd1_e hf
    refine g_get (pc := 71) (ci := 4) (kk := 18) d_Q_count_71 rfl in_Realm (by decide) wd_155 (gR_spec e21) ?_
    obtain ⟨x22, e23, hf⟩ := bd1_e hf
    refine g_get (pc := 74) (ci := 6) (kk := 0) d_Q_count_74 rfl in_Sightings (by decide) wd_79 (gI_spec e23) ?_
    obtain ⟨rfl, rfl⟩ := ret2 hf
    exact g_iret (pc := 77) rfl d_Q_count_77
  replace hf := (if_neg c17).symm.trans hf
  by_cases c24 : a1 = (3 : Int32)
  · replace hf := (if_pos c24).symm.trans hf
    refine g_tabIn (pc := 1) 78 (3 : Int32) d_Q_count_1 c24 (by decide) (by decide) rfl (by decide) ?_
    refine g_aload_n (pc := 78) 0 d_Q_count_78 rfl rfl ?_
    obtain ⟨u26, e25, hf⟩ := bd1_e hf
    obtain ⟨x29, h27, e28, hf⟩ := bd2_e hf
    refine g_callV (pc := 79) (ci := 0) [] (site_of si_Q_countKept (by decide) (by decide)) wd_912 wd_914 wp_29 d_Q_count_79 rfl e25 (Nat.le_of_ble_eq_true rfl) (fun z => absurd z (by decide)) (fun z => absurd z (by decide)) (fun z => absurd z (by decide)) (c_Q_countKept e28) rfl ?_
    refine g_st [.int x29] rfl ?_
    obtain ⟨rfl, rfl⟩ := ret2 hf
    exact g_iret (pc := 82) rfl d_Q_count_82
  replace hf := (if_neg c24).symm.trans hf
  by_cases c30 : a1 = (4 : Int32)
  · replace hf := (if_pos c30).symm.trans hf
    refine g_tabIn (pc := 1) 83 (4 : Int32) d_Q_count_1 c30 (by decide) (by decide) rfl (by decide) ?_
    refine g_aload_n (pc := 83) 0 d_Q_count_83 rfl rfl ?_
    obtain ⟨x31, e32, hf⟩ := bd1_e hf
    refine g_get (pc := 84) (ci := 0) (kk := 0) d_Q_count_84 rfl in_Q (by decide) wd_296 (gR_spec e32) ?_
    obtain ⟨x33, e34, hf⟩ := bd1_e hf
    refine g_get (pc := 87) (ci := 3) (kk := 1) d_Q_count_87 rfl in_Reader (by decide) wd_34 (gI_spec e34) ?_
    obtain ⟨rfl, rfl⟩ := ret2 hf
    exact g_iret (pc := 90) rfl d_Q_count_90
  replace hf := (if_neg c30).symm.trans hf
  by_cases c35 : a1 = (5 : Int32)
  · replace hf := (if_pos c35).symm.trans hf
    refine g_tabIn (pc := 1) 91 (5 : Int32) d_Q_count_1 c35 (by decide) (by decide) rfl (by decide) ?_
    refine g_aload_n (pc := 91) 0 d_Q_count_91 rfl rfl ?_
    obtain ⟨x36, e37, hf⟩ := bd1_e hf
    refine g_get (pc := 92) (ci := 0) (kk := 5) d_Q_count_92 rfl in_Q (by decide) wd_301 (gR_spec e37) ?_
    refine g_iconst (pc := 95) (0 : Int32) d_Q_count_95 (by decide) ?_
    obtain ⟨x38, e39, hf⟩ := bd1_e hf
    refine g_aald (pc := 96) "QuotaLaws$Sheet" d_Q_count_96 (fun _ => rfl) e39 ?_
    obtain ⟨x40, e41, hf⟩ := bd1_e hf
    refine g_get (pc := 97) (ci := 5) (kk := 0) d_Q_count_97 rfl in_Sheet (by decide) wd_286 (gI_spec e41) ?_
    obtain ⟨rfl, rfl⟩ := ret2 hf
    exact g_iret (pc := 100) rfl d_Q_count_100
  replace hf := (if_neg c35).symm.trans hf
  by_cases c42 : a1 = (6 : Int32)
  · replace hf := (if_pos c42).symm.trans hf
    refine g_tabIn (pc := 1) 101 (6 : Int32) d_Q_count_1 c42 (by decide) (by decide) rfl (by decide) ?_
    refine g_aload_n (pc := 101) 0 d_Q_count_101 rfl rfl ?_
    obtain ⟨x43, e44, hf⟩ := bd1_e hf
    refine g_get (pc := 102) (ci := 0) (kk := 1) d_Q_count_102 rfl in_Q (by decide) wd_297 (gR_spec e44) ?_
    obtain ⟨u46, e45, hf⟩ := bd1_e hf
    obtain ⟨x49, h47, e48, hf⟩ := bd2_e hf
    refine g_callV (pc := 105) (ci := 4) [] (site_of si_Realm_allPurses (by decide) (by decide)) wd_916 wd_917 wd_918 d_Q_count_105 rfl e45 (Nat.le_of_ble_eq_true rfl) (fun z => absurd z (by decide)) (fun z => absurd z (by decide)) (fun z => absurd z (by decide)) (c_Realm_allPurses e48) rfl ?_
    refine g_st [.int x49] rfl ?_
    obtain ⟨rfl, rfl⟩ := ret2 hf
    exact g_iret (pc := 108) rfl d_Q_count_108
  replace hf := (if_neg c42).symm.trans hf
  by_cases c50 : a1 = (7 : Int32)
  · replace hf := (if_pos c50).symm.trans hf
    refine g_tabIn (pc := 1) 109 (7 : Int32) d_Q_count_1 c50 (by decide) (by decide) rfl (by decide) ?_
    refine g_aload_n (pc := 109) 0 d_Q_count_109 rfl rfl ?_
    obtain ⟨x51, e52, hf⟩ := bd1_e hf
    refine g_get (pc := 110) (ci := 0) (kk := 1) d_Q_count_110 rfl in_Q (by decide) wd_297 (gR_spec e52) ?_
    obtain ⟨u54, e53, hf⟩ := bd1_e hf
    obtain ⟨x57, h55, e56, hf⟩ := bd2_e hf
    refine g_callV (pc := 113) (ci := 4) [] (site_of si_Realm_allNeed (by decide) (by decide)) wd_920 wd_921 wd_922 d_Q_count_113 rfl e53 (Nat.le_of_ble_eq_true rfl) (fun z => absurd z (by decide)) (fun z => absurd z (by decide)) (fun z => absurd z (by decide)) (c_Realm_allNeed e56) rfl ?_
    refine g_st [.int x57] rfl ?_
    obtain ⟨rfl, rfl⟩ := ret2 hf
    exact g_iret (pc := 116) rfl d_Q_count_116
  replace hf := (if_neg c50).symm.trans hf
  refine g_tabOut (pc := 1) 117 8 d_Q_count_1 (by decide) (fun i hi => ?_) (by decide) ?_
  · rcases (show i = 0 ∨ i = 1 ∨ i = 2 ∨ i = 3 ∨ i = 4 ∨ i = 5 ∨ i = 6 ∨ i = 7 by omega) with rfl | rfl | rfl | rfl | rfl | rfl | rfl | rfl
    · exact c1
    · exact c9
    · exact c17
    · exact c24
    · exact c30
    · exact c35
    · exact c42
    · exact c50
  refine g_iconst (pc := 117) ((-1) : Int32) d_Q_count_117 (by decide) ?_
  obtain ⟨rfl, rfl⟩ := ret2 hf
  exact g_iret (pc := 118) rfl d_Q_count_118
def f_Q_count (a0 : Nat) (a1 : Int32) (h : mH) : Option (Int32 × mH) := f_Q_count_0 a0 a1 h
theorem c_Q_count {sc : Nat × (Nat → Int32)} {a0 : Nat} {a1 : Int32} {h : mH} {r : Int32} {h' : mH} (hf : f_Q_count a0 a1 h = some (r, h')) : MM sc y_Q_count prog_1_method_39_code 2 (some .int) 3 67 [.ref a0, .int a1] h (some (.int r)) h' :=
  mm_of_G (by decide) (Nat.le_of_ble_eq_true rfl) (t_Q_count_0 _ _ _ _ _ hf)
