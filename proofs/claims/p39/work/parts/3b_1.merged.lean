/-! 32.own -/
section
/-! Q revive (I)I -/
set_option maxRecDepth 100000 in
theorem dd_Q_revive_0 : (decode prog_1_method_17_code 0 = .ok (.aload_n 0, 1)) ∧ (decode prog_1_method_17_code 1 = .ok (.getfield 19, 3)) ∧ (decode prog_1_method_17_code 4 = .ok (.iload_n 1, 1)) ∧ (decode prog_1_method_17_code 5 = .ok (.invokevirtual 109, 3)) ∧ (decode prog_1_method_17_code 8 = .ok (.ifCond .ne 5, 3)) ∧ (decode prog_1_method_17_code 11 = .ok (.iconst (-1), 1)) ∧ (decode prog_1_method_17_code 12 = .ok (.ireturn, 1)) ∧ (decode prog_1_method_17_code 13 = .ok (.aload_n 0, 1)) ∧ (decode prog_1_method_17_code 14 = .ok (.getfield 19, 3)) ∧ (decode prog_1_method_17_code 17 = .ok (.getfield 103, 3)) ∧ (decode prog_1_method_17_code 20 = .ok (.iload_n 1, 1)) ∧ (decode prog_1_method_17_code 21 = .ok (.invokestatic 177, 3)) ∧ (decode prog_1_method_17_code 24 = .ok (.ifCond .eq 6, 3)) ∧ (decode prog_1_method_17_code 27 = .ok (.bipush (-2), 2)) ∧ (decode prog_1_method_17_code 29 = .ok (.ireturn, 1)) ∧ (decode prog_1_method_17_code 30 = .ok (.aload_n 0, 1)) ∧ (decode prog_1_method_17_code 31 = .ok (.getfield 19, 3)) ∧ (decode prog_1_method_17_code 34 = .ok (.aload_n 0, 1)) ∧ (decode prog_1_method_17_code 35 = .ok (.getfield 19, 3)) ∧ (decode prog_1_method_17_code 38 = .ok (.getfield 103, 3)) ∧ (decode prog_1_method_17_code 41 = .ok (.iload_n 1, 1)) ∧ (decode prog_1_method_17_code 42 = .ok (.iconst 1, 1)) ∧ (decode prog_1_method_17_code 43 = .ok (.invokestatic 173, 3)) ∧ (decode prog_1_method_17_code 46 = .ok (.putfield 103, 3)) := by
  have h : List.drop 0 prog_1_method_17_code.data.toList = 0x2a :: _ := rfl
  refine ⟨zq_k_n 42 h rfl (zq_o_42 _), ?_⟩
  replace h := zq_nx1 (q := 1) h rfl
  refine ⟨zq_k_u2 180 (fun z => .getfield z) 19 h rfl (zq_o_180 _) (by decide +kernel), ?_⟩
  replace h := zq_nx3 (q := 4) h rfl
  refine ⟨zq_k_n 27 h rfl (zq_o_27 _), ?_⟩
  replace h := zq_nx1 (q := 5) h rfl
  refine ⟨zq_k_u2 182 (fun z => .invokevirtual z) 109 h rfl (zq_o_182 _) (by decide +kernel), ?_⟩
  replace h := zq_nx3 (q := 8) h rfl
  refine ⟨zq_k_s2 154 (fun z => .ifCond .ne z) 5 h rfl (zq_o_154 _) (by decide +kernel), ?_⟩
  replace h := zq_nx3 (q := 11) h rfl
  refine ⟨zq_k_n 2 h rfl (zq_o_2 _), ?_⟩
  replace h := zq_nx1 (q := 12) h rfl
  refine ⟨zq_k_n 172 h rfl (zq_o_172 _), ?_⟩
  replace h := zq_nx1 (q := 13) h rfl
  refine ⟨zq_k_n 42 h rfl (zq_o_42 _), ?_⟩
  replace h := zq_nx1 (q := 14) h rfl
  refine ⟨zq_k_u2 180 (fun z => .getfield z) 19 h rfl (zq_o_180 _) (by decide +kernel), ?_⟩
  replace h := zq_nx3 (q := 17) h rfl
  refine ⟨zq_k_u2 180 (fun z => .getfield z) 103 h rfl (zq_o_180 _) (by decide +kernel), ?_⟩
  replace h := zq_nx3 (q := 20) h rfl
  refine ⟨zq_k_n 27 h rfl (zq_o_27 _), ?_⟩
  replace h := zq_nx1 (q := 21) h rfl
  refine ⟨zq_k_u2 184 (fun z => .invokestatic z) 177 h rfl (zq_o_184 _) (by decide +kernel), ?_⟩
  replace h := zq_nx3 (q := 24) h rfl
  refine ⟨zq_k_s2 153 (fun z => .ifCond .eq z) 6 h rfl (zq_o_153 _) (by decide +kernel), ?_⟩
  replace h := zq_nx3 (q := 27) h rfl
  refine ⟨zq_k_s1 16 (fun z => .bipush z) (-2) h rfl (zq_o_16 _) (by decide +kernel), ?_⟩
  replace h := zq_nx2 (q := 29) h rfl
  refine ⟨zq_k_n 172 h rfl (zq_o_172 _), ?_⟩
  replace h := zq_nx1 (q := 30) h rfl
  refine ⟨zq_k_n 42 h rfl (zq_o_42 _), ?_⟩
  replace h := zq_nx1 (q := 31) h rfl
  refine ⟨zq_k_u2 180 (fun z => .getfield z) 19 h rfl (zq_o_180 _) (by decide +kernel), ?_⟩
  replace h := zq_nx3 (q := 34) h rfl
  refine ⟨zq_k_n 42 h rfl (zq_o_42 _), ?_⟩
  replace h := zq_nx1 (q := 35) h rfl
  refine ⟨zq_k_u2 180 (fun z => .getfield z) 19 h rfl (zq_o_180 _) (by decide +kernel), ?_⟩
  replace h := zq_nx3 (q := 38) h rfl
  refine ⟨zq_k_u2 180 (fun z => .getfield z) 103 h rfl (zq_o_180 _) (by decide +kernel), ?_⟩
  replace h := zq_nx3 (q := 41) h rfl
  refine ⟨zq_k_n 27 h rfl (zq_o_27 _), ?_⟩
  replace h := zq_nx1 (q := 42) h rfl
  refine ⟨zq_k_n 4 h rfl (zq_o_4 _), ?_⟩
  replace h := zq_nx1 (q := 43) h rfl
  refine ⟨zq_k_u2 184 (fun z => .invokestatic z) 173 h rfl (zq_o_184 _) (by decide +kernel), ?_⟩
  replace h := zq_nx3 (q := 46) h rfl
  exact zq_k_u2 181 (fun z => .putfield z) 103 h rfl (zq_o_181 _) (by decide +kernel)
set_option maxRecDepth 100000 in
theorem dd_Q_revive_49 : (decode prog_1_method_17_code 49 = .ok (.aload_n 0, 1)) ∧ (decode prog_1_method_17_code 50 = .ok (.getfield 19, 3)) ∧ (decode prog_1_method_17_code 53 = .ok (.getfield 103, 3)) ∧ (decode prog_1_method_17_code 56 = .ok (.invokestatic 180, 3)) ∧ (decode prog_1_method_17_code 59 = .ok (.ireturn, 1)) := by
  have h : List.drop 49 prog_1_method_17_code.data.toList = 0x2a :: _ := rfl
  refine ⟨zq_k_n 42 h rfl (zq_o_42 _), ?_⟩
  replace h := zq_nx1 (q := 50) h rfl
  refine ⟨zq_k_u2 180 (fun z => .getfield z) 19 h rfl (zq_o_180 _) (by decide +kernel), ?_⟩
  replace h := zq_nx3 (q := 53) h rfl
  refine ⟨zq_k_u2 180 (fun z => .getfield z) 103 h rfl (zq_o_180 _) (by decide +kernel), ?_⟩
  replace h := zq_nx3 (q := 56) h rfl
  refine ⟨zq_k_u2 184 (fun z => .invokestatic z) 180 h rfl (zq_o_184 _) (by decide +kernel), ?_⟩
  replace h := zq_nx3 (q := 59) h rfl
  exact zq_k_n 172 h rfl (zq_o_172 _)
def f_Q_revive_0  (a0 : Nat) (a1 : Int32) (h : mH) : Option (Int32 × mH) :=
  bd1 (gR h a0 0 1) fun x1 =>
  bd1 (kC h x1 4) fun _ =>
  bd2 (f_Realm_hasLaw x1 a1 h) fun x7 h5 =>
  if x7 = 0 then
    some (((-1) : Int32), h5)
  else
    bd1 (gR h5 a0 0 1) fun x8 =>
    bd1 (gI h5 x8 4 4) fun x10 =>
    bd2 (f_Q_hasBit x10 a1 h5) fun x14 h12 =>
    if x14 = 0 then
      bd1 (gR h12 a0 0 1) fun x15 =>
      bd1 (gR h12 a0 0 1) fun x17 =>
      bd1 (gI h12 x17 4 4) fun x19 =>
      bd2 (f_Q_withBit x19 a1 (1 : Int32) h12) fun x23 h21 =>
      bd1 (pV h21 x15 4 4 (.int x23)) fun h24 =>
      bd1 (gR h24 a0 0 1) fun x26 =>
      bd1 (gI h24 x26 4 4) fun x28 =>
      bd2 (f_Integer_bitCount x28 h24) fun x32 h30 =>
      some (x32, h30)
    else
      some (((-2) : Int32), h12)
set_option maxRecDepth 20000 in
theorem t_Q_revive_0 {sc : Nat × (Nat → Int32)}  (a0 : Nat) (a1 : Int32) (h : mH) (r : Int32) (h' : mH) (hf : f_Q_revive_0  a0 a1 h = some (r, h')) : G sc y_Q_revive prog_1_method_17_code 2 (some .int) 1 22 0 [(0, .ref a0), (1, .int a1)] [] h (some (.int r)) h' := by
  unfold f_Q_revive_0 at hf
  refine g_aload_n (pc := 0) 0 dd_Q_revive_0.1 rfl rfl ?_
  obtain ⟨x1, e2, hf⟩ := bd1_e hf
  refine g_get (pc := 1) (ci := 0) (kk := 1) dd_Q_revive_0.2.1 rfl in_Q (by decide) wd_297 (gR_spec e2) ?_
  refine g_iload_n (pc := 4) 1 dd_Q_revive_0.2.2.1 rfl rfl ?_
  obtain ⟨u4, e3, hf⟩ := bd1_e hf
  obtain ⟨x7, h5, e6, hf⟩ := bd2_e hf
  refine g_callV (pc := 5) (ci := 4) [.int a1] (site_of si_Realm_hasLaw (by decide) (by decide)) wd_519 wd_488 wd_489 dd_Q_revive_0.2.2.2.1 rfl e3 (Nat.le_of_ble_eq_true rfl) (fun z => absurd z si_na_Realm_hasLaw) (fun z => absurd z si_na_Realm_hasLaw) (fun z => absurd z si_na_Realm_hasLaw) (c_Realm_hasLaw e6) rfl ?_
  refine g_st [.int x7] rfl ?_
  refine g_ifne (pc := 8) 13 dd_Q_revive_0.2.2.2.2.1 (by decide) (fun c34 => ?_) (fun c34 => ?_)
  · replace hf := (if_neg c34).symm.trans hf
    refine g_aload_n (pc := 13) 0 dd_Q_revive_0.2.2.2.2.2.2.2.1 rfl rfl ?_
    obtain ⟨x8, e9, hf⟩ := bd1_e hf
    refine g_get (pc := 14) (ci := 0) (kk := 1) dd_Q_revive_0.2.2.2.2.2.2.2.2.1 rfl in_Q (by decide) wd_297 (gR_spec e9) ?_
    obtain ⟨x10, e11, hf⟩ := bd1_e hf
    refine g_get (pc := 17) (ci := 4) (kk := 4) dd_Q_revive_0.2.2.2.2.2.2.2.2.2.1 rfl in_Realm (by decide) wd_109 (gI_spec e11) ?_
    refine g_iload_n (pc := 20) 1 dd_Q_revive_0.2.2.2.2.2.2.2.2.2.2.1 rfl rfl ?_
    obtain ⟨x14, h12, e13, hf⟩ := bd2_e hf
    refine g_callS (pc := 21) [.int x10, .int a1] (site_of si_Q_hasBit (by decide) (by decide)) wd_614 wd_469 dd_Q_revive_0.2.2.2.2.2.2.2.2.2.2.2.1 (Nat.le_of_ble_eq_true rfl) (fun z => absurd z si_na_Q_hasBit) (fun z => absurd z si_na_Q_hasBit) (fun z => absurd z si_na_Q_hasBit) (c_Q_hasBit e13) rfl ?_
    refine g_st [.int x14] rfl ?_
    refine g_ifeq (pc := 24) 30 dd_Q_revive_0.2.2.2.2.2.2.2.2.2.2.2.2.1 (by decide) (fun c33 => ?_) (fun c33 => ?_)
    · replace hf := (if_pos c33).symm.trans hf
      refine g_aload_n (pc := 30) 0 dd_Q_revive_0.2.2.2.2.2.2.2.2.2.2.2.2.2.2.2.1 rfl rfl ?_
      obtain ⟨x15, e16, hf⟩ := bd1_e hf
      refine g_get (pc := 31) (ci := 0) (kk := 1) dd_Q_revive_0.2.2.2.2.2.2.2.2.2.2.2.2.2.2.2.2.1 rfl in_Q (by decide) wd_297 (gR_spec e16) ?_
      refine g_aload_n (pc := 34) 0 dd_Q_revive_0.2.2.2.2.2.2.2.2.2.2.2.2.2.2.2.2.2.1 rfl rfl ?_
      obtain ⟨x17, e18, hf⟩ := bd1_e hf
      refine g_get (pc := 35) (ci := 0) (kk := 1) dd_Q_revive_0.2.2.2.2.2.2.2.2.2.2.2.2.2.2.2.2.2.2.1 rfl in_Q (by decide) wd_297 (gR_spec e18) ?_
      obtain ⟨x19, e20, hf⟩ := bd1_e hf
      refine g_get (pc := 38) (ci := 4) (kk := 4) dd_Q_revive_0.2.2.2.2.2.2.2.2.2.2.2.2.2.2.2.2.2.2.2.1 rfl in_Realm (by decide) wd_109 (gI_spec e20) ?_
      refine g_iload_n (pc := 41) 1 dd_Q_revive_0.2.2.2.2.2.2.2.2.2.2.2.2.2.2.2.2.2.2.2.2.1 rfl rfl ?_
      refine g_iconst (pc := 42) (1 : Int32) dd_Q_revive_0.2.2.2.2.2.2.2.2.2.2.2.2.2.2.2.2.2.2.2.2.2.1 (by decide) ?_
      obtain ⟨x23, h21, e22, hf⟩ := bd2_e hf
      refine g_callS (pc := 43) [.int x19, .int a1, .int (1 : Int32)] (site_of si_Q_withBit (by decide) (by decide)) wd_591 wd_592 dd_Q_revive_0.2.2.2.2.2.2.2.2.2.2.2.2.2.2.2.2.2.2.2.2.2.2.1 (Nat.le_of_ble_eq_true rfl) (fun z => absurd z si_na_Q_withBit) (fun z => absurd z si_na_Q_withBit) (fun z => absurd z si_na_Q_withBit) (c_Q_withBit e22) rfl ?_
      refine g_st [.int x23, .ref x15] rfl ?_
      obtain ⟨h24, e25, hf⟩ := bd1_e hf
      refine g_put (pc := 46) (ci := 4) (kk := 4) ty_Realm tyok_Realm nm_Realm dd_Q_revive_0.2.2.2.2.2.2.2.2.2.2.2.2.2.2.2.2.2.2.2.2.2.2.2 rfl in_Realm (by decide) wd_109 rfl (fun _ => rfl) (fun _ => rfl) (fun _ z => by cases z) e25 ?_
      refine g_aload_n (pc := 49) 0 dd_Q_revive_49.1 rfl rfl ?_
      obtain ⟨x26, e27, hf⟩ := bd1_e hf
      refine g_get (pc := 50) (ci := 0) (kk := 1) dd_Q_revive_49.2.1 rfl in_Q (by decide) wd_297 (gR_spec e27) ?_
      obtain ⟨x28, e29, hf⟩ := bd1_e hf
      refine g_get (pc := 53) (ci := 4) (kk := 4) dd_Q_revive_49.2.2.1 rfl in_Realm (by decide) wd_109 (gI_spec e29) ?_
      obtain ⟨x32, h30, e31, hf⟩ := bd2_e hf
      refine g_callS (pc := 56) [.int x28] (site_of si_Integer_bitCount (by decide) (by decide)) wd_615 wd_616 dd_Q_revive_49.2.2.2.1 (Nat.le_of_ble_eq_true rfl) (fun z => absurd z si_na_Integer_bitCount) (fun z => absurd z si_na_Integer_bitCount) (fun z => absurd z si_na_Integer_bitCount) (c_Integer_bitCount e31) rfl ?_
      refine g_st [.int x32] rfl ?_
      obtain ⟨rfl, rfl⟩ := ret2 hf
      exact g_iret (pc := 59) rfl dd_Q_revive_49.2.2.2.2
    · replace hf := (if_neg c33).symm.trans hf
      refine g_bipush (pc := 27) ((-2) : Int32) dd_Q_revive_0.2.2.2.2.2.2.2.2.2.2.2.2.2.1 (by decide) ?_
      obtain ⟨rfl, rfl⟩ := ret2 hf
      exact g_iret (pc := 29) rfl dd_Q_revive_0.2.2.2.2.2.2.2.2.2.2.2.2.2.2.1
  · replace hf := (if_pos c34).symm.trans hf
    refine g_iconst (pc := 11) ((-1) : Int32) dd_Q_revive_0.2.2.2.2.2.1 (by decide) ?_
    obtain ⟨rfl, rfl⟩ := ret2 hf
    exact g_iret (pc := 12) rfl dd_Q_revive_0.2.2.2.2.2.2.1
def f_Q_revive (a0 : Nat) (a1 : Int32) (h : mH) : Option (Int32 × mH) := f_Q_revive_0 a0 a1 h
theorem c_Q_revive {sc : Nat × (Nat → Int32)} {a0 : Nat} {a1 : Int32} {h : mH} {r : Int32} {h' : mH} (hf : f_Q_revive a0 a1 h = some (r, h')) : MM sc y_Q_revive prog_1_method_17_code 2 (some .int) 1 22 [.ref a0, .int a1] h (some (.int r)) h' :=
  mm_of_G si_pn_Q (Nat.le_of_ble_eq_true rfl) (t_Q_revive_0 _ _ _ _ _ hf)
/-! Realm mark (II)I -/
set_option maxRecDepth 100000 in
theorem dd_Realm_mark_0 : (decode prog_5_method_20_code 0 = .ok (.aload_n 0, 1)) ∧ (decode prog_5_method_20_code 1 = .ok (.getfield 18, 3)) ∧ (decode prog_5_method_20_code 4 = .ok (.iload_n 2, 1)) ∧ (decode prog_5_method_20_code 5 = .ok (.iaload, 1)) ∧ (decode prog_5_method_20_code 6 = .ok (.aload_n 0, 1)) ∧ (decode prog_5_method_20_code 7 = .ok (.getfield 30, 3)) ∧ (decode prog_5_method_20_code 10 = .ok (.iload_n 1, 1)) ∧ (decode prog_5_method_20_code 11 = .ok (.iaload, 1)) ∧ (decode prog_5_method_20_code 12 = .ok (.iadd, 1)) ∧ (decode prog_5_method_20_code 13 = .ok (.istore_n 3, 1)) ∧ (decode prog_5_method_20_code 14 = .ok (.aload_n 0, 1)) ∧ (decode prog_5_method_20_code 15 = .ok (.getfield 45, 3)) ∧ (decode prog_5_method_20_code 18 = .ok (.iload_n 1, 1)) ∧ (decode prog_5_method_20_code 19 = .ok (.iconst 5, 1)) ∧ (decode prog_5_method_20_code 20 = .ok (.imul, 1)) ∧ (decode prog_5_method_20_code 21 = .ok (.iload_n 2, 1)) ∧ (decode prog_5_method_20_code 22 = .ok (.iadd, 1)) ∧ (decode prog_5_method_20_code 23 = .ok (.dup2, 1)) ∧ (decode prog_5_method_20_code 24 = .ok (.iaload, 1)) ∧ (decode prog_5_method_20_code 25 = .ok (.iconst 1, 1)) ∧ (decode prog_5_method_20_code 26 = .ok (.iadd, 1)) ∧ (decode prog_5_method_20_code 27 = .ok (.iastore, 1)) ∧ (decode prog_5_method_20_code 28 = .ok (.aload_n 0, 1)) ∧ (decode prog_5_method_20_code 29 = .ok (.dup, 1)) := by
  have h : List.drop 0 prog_5_method_20_code.data.toList = 0x2a :: _ := rfl
  refine ⟨zq_k_n 42 h rfl (zq_o_42 _), ?_⟩
  replace h := zq_nx1 (q := 1) h rfl
  refine ⟨zq_k_u2 180 (fun z => .getfield z) 18 h rfl (zq_o_180 _) (by decide +kernel), ?_⟩
  replace h := zq_nx3 (q := 4) h rfl
  refine ⟨zq_k_n 28 h rfl (zq_o_28 _), ?_⟩
  replace h := zq_nx1 (q := 5) h rfl
  refine ⟨zq_k_n 46 h rfl (zq_o_46 _), ?_⟩
  replace h := zq_nx1 (q := 6) h rfl
  refine ⟨zq_k_n 42 h rfl (zq_o_42 _), ?_⟩
  replace h := zq_nx1 (q := 7) h rfl
  refine ⟨zq_k_u2 180 (fun z => .getfield z) 30 h rfl (zq_o_180 _) (by decide +kernel), ?_⟩
  replace h := zq_nx3 (q := 10) h rfl
  refine ⟨zq_k_n 27 h rfl (zq_o_27 _), ?_⟩
  replace h := zq_nx1 (q := 11) h rfl
  refine ⟨zq_k_n 46 h rfl (zq_o_46 _), ?_⟩
  replace h := zq_nx1 (q := 12) h rfl
  refine ⟨zq_k_n 96 h rfl (zq_o_96 _), ?_⟩
  replace h := zq_nx1 (q := 13) h rfl
  refine ⟨zq_k_n 62 h rfl (zq_o_62 _), ?_⟩
  replace h := zq_nx1 (q := 14) h rfl
  refine ⟨zq_k_n 42 h rfl (zq_o_42 _), ?_⟩
  replace h := zq_nx1 (q := 15) h rfl
  refine ⟨zq_k_u2 180 (fun z => .getfield z) 45 h rfl (zq_o_180 _) (by decide +kernel), ?_⟩
  replace h := zq_nx3 (q := 18) h rfl
  refine ⟨zq_k_n 27 h rfl (zq_o_27 _), ?_⟩
  replace h := zq_nx1 (q := 19) h rfl
  refine ⟨zq_k_n 8 h rfl (zq_o_8 _), ?_⟩
  replace h := zq_nx1 (q := 20) h rfl
  refine ⟨zq_k_n 104 h rfl (zq_o_104 _), ?_⟩
  replace h := zq_nx1 (q := 21) h rfl
  refine ⟨zq_k_n 28 h rfl (zq_o_28 _), ?_⟩
  replace h := zq_nx1 (q := 22) h rfl
  refine ⟨zq_k_n 96 h rfl (zq_o_96 _), ?_⟩
  replace h := zq_nx1 (q := 23) h rfl
  refine ⟨zq_k_n 92 h rfl (zq_o_92 _), ?_⟩
  replace h := zq_nx1 (q := 24) h rfl
  refine ⟨zq_k_n 46 h rfl (zq_o_46 _), ?_⟩
  replace h := zq_nx1 (q := 25) h rfl
  refine ⟨zq_k_n 4 h rfl (zq_o_4 _), ?_⟩
  replace h := zq_nx1 (q := 26) h rfl
  refine ⟨zq_k_n 96 h rfl (zq_o_96 _), ?_⟩
  replace h := zq_nx1 (q := 27) h rfl
  refine ⟨zq_k_n 79 h rfl (zq_o_79 _), ?_⟩
  replace h := zq_nx1 (q := 28) h rfl
  refine ⟨zq_k_n 42 h rfl (zq_o_42 _), ?_⟩
  replace h := zq_nx1 (q := 29) h rfl
  exact zq_k_n 89 h rfl (zq_o_89 _)
set_option maxRecDepth 100000 in
theorem dd_Realm_mark_30 : (decode prog_5_method_20_code 30 = .ok (.getfield 65, 3)) ∧ (decode prog_5_method_20_code 33 = .ok (.iload_n 3, 1)) ∧ (decode prog_5_method_20_code 34 = .ok (.iadd, 1)) ∧ (decode prog_5_method_20_code 35 = .ok (.putfield 65, 3)) ∧ (decode prog_5_method_20_code 38 = .ok (.iload_n 3, 1)) ∧ (decode prog_5_method_20_code 39 = .ok (.ireturn, 1)) := by
  have h : List.drop 30 prog_5_method_20_code.data.toList = 0xb4 :: _ := rfl
  refine ⟨zq_k_u2 180 (fun z => .getfield z) 65 h rfl (zq_o_180 _) (by decide +kernel), ?_⟩
  replace h := zq_nx3 (q := 33) h rfl
  refine ⟨zq_k_n 29 h rfl (zq_o_29 _), ?_⟩
  replace h := zq_nx1 (q := 34) h rfl
  refine ⟨zq_k_n 96 h rfl (zq_o_96 _), ?_⟩
  replace h := zq_nx1 (q := 35) h rfl
  refine ⟨zq_k_u2 181 (fun z => .putfield z) 65 h rfl (zq_o_181 _) (by decide +kernel), ?_⟩
  replace h := zq_nx3 (q := 38) h rfl
  refine ⟨zq_k_n 29 h rfl (zq_o_29 _), ?_⟩
  replace h := zq_nx1 (q := 39) h rfl
  exact zq_k_n 172 h rfl (zq_o_172 _)
def f_Realm_mark_0  (a0 : Nat) (a1 : Int32) (a2 : Int32) (h : mH) : Option (Int32 × mH) :=
  bd1 (gR h a0 4 8) fun x1 =>
  bd1 (aI h 0 x1 a2) fun x3 =>
  bd1 (gR h a0 4 12) fun x5 =>
  bd1 (aI h 0 x5 a1) fun x7 =>
  bd1 (gR h a0 4 17) fun x9 =>
  bd1 (aI h 0 x9 ((a1 * (5 : Int32)) + a2)) fun x11 =>
  bd1 (sI h 0 x9 ((a1 * (5 : Int32)) + a2) (x11 + (1 : Int32))) fun h13 =>
  bd1 (gI h13 a0 4 3) fun x15 =>
  bd1 (pV h13 a0 4 3 (.int (x15 + (x3 + x7)))) fun h17 =>
  some (x3 + x7, h17)
set_option maxRecDepth 20000 in
theorem t_Realm_mark_0 {sc : Nat × (Nat → Int32)}  (a0 : Nat) (a1 : Int32) (a2 : Int32) (h : mH) (r : Int32) (h' : mH) (hf : f_Realm_mark_0  a0 a1 a2 h = some (r, h')) : G sc y_Realm_mark prog_5_method_20_code 4 (some .int) 0 0 0 [(0, .ref a0), (1, .int a1), (2, .int a2)] [] h (some (.int r)) h' := by
  unfold f_Realm_mark_0 at hf
  refine g_aload_n (pc := 0) 0 dd_Realm_mark_0.1 rfl rfl ?_
  obtain ⟨x1, e2, hf⟩ := bd1_e hf
  refine g_get (pc := 1) (ci := 4) (kk := 8) dd_Realm_mark_0.2.1 rfl in_Realm (by decide) wd_120 (gR_spec e2) ?_
  refine g_iload_n (pc := 4) 2 dd_Realm_mark_0.2.2.1 rfl rfl ?_
  obtain ⟨x3, e4, hf⟩ := bd1_e hf
  refine g_iald (pc := 5) dd_Realm_mark_0.2.2.2.1 e4 ?_
  refine g_aload_n (pc := 6) 0 dd_Realm_mark_0.2.2.2.2.1 rfl rfl ?_
  obtain ⟨x5, e6, hf⟩ := bd1_e hf
  refine g_get (pc := 7) (ci := 4) (kk := 12) dd_Realm_mark_0.2.2.2.2.2.1 rfl in_Realm (by decide) wd_134 (gR_spec e6) ?_
  refine g_iload_n (pc := 10) 1 dd_Realm_mark_0.2.2.2.2.2.2.1 rfl rfl ?_
  obtain ⟨x7, e8, hf⟩ := bd1_e hf
  refine g_iald (pc := 11) dd_Realm_mark_0.2.2.2.2.2.2.2.1 e8 ?_
  refine g_iadd (pc := 12) dd_Realm_mark_0.2.2.2.2.2.2.2.2.1 ?_
  refine g_istore_n (pc := 13) [(3, .int (x3 + x7)), (0, .ref a0), (1, .int a1), (2, .int a2)] dd_Realm_mark_0.2.2.2.2.2.2.2.2.2.1 rfl (Nat.le_of_ble_eq_true rfl) rfl ?_
  refine g_aload_n (pc := 14) 1 dd_Realm_mark_0.2.2.2.2.2.2.2.2.2.2.1 rfl rfl ?_
  obtain ⟨x9, e10, hf⟩ := bd1_e hf
  refine g_get (pc := 15) (ci := 4) (kk := 17) dd_Realm_mark_0.2.2.2.2.2.2.2.2.2.2.2.1 rfl in_Realm (by decide) wd_152 (gR_spec e10) ?_
  refine g_iload_n (pc := 18) 2 dd_Realm_mark_0.2.2.2.2.2.2.2.2.2.2.2.2.1 rfl rfl ?_
  refine g_iconst (pc := 19) (5 : Int32) dd_Realm_mark_0.2.2.2.2.2.2.2.2.2.2.2.2.2.1 (by decide) ?_
  refine g_imul (pc := 20) dd_Realm_mark_0.2.2.2.2.2.2.2.2.2.2.2.2.2.2.1 ?_
  refine g_iload_n (pc := 21) 3 dd_Realm_mark_0.2.2.2.2.2.2.2.2.2.2.2.2.2.2.2.1 rfl rfl ?_
  refine g_iadd (pc := 22) dd_Realm_mark_0.2.2.2.2.2.2.2.2.2.2.2.2.2.2.2.2.1 ?_
  refine g_dup2 (pc := 23) dd_Realm_mark_0.2.2.2.2.2.2.2.2.2.2.2.2.2.2.2.2.2.1 rfl rfl ?_
  obtain ⟨x11, e12, hf⟩ := bd1_e hf
  refine g_iald (pc := 24) dd_Realm_mark_0.2.2.2.2.2.2.2.2.2.2.2.2.2.2.2.2.2.2.1 e12 ?_
  refine g_iconst (pc := 25) (1 : Int32) dd_Realm_mark_0.2.2.2.2.2.2.2.2.2.2.2.2.2.2.2.2.2.2.2.1 (by decide) ?_
  refine g_iadd (pc := 26) dd_Realm_mark_0.2.2.2.2.2.2.2.2.2.2.2.2.2.2.2.2.2.2.2.2.1 ?_
  obtain ⟨h13, e14, hf⟩ := bd1_e hf
  refine g_iast (pc := 27) dd_Realm_mark_0.2.2.2.2.2.2.2.2.2.2.2.2.2.2.2.2.2.2.2.2.2.1 e14 ?_
  refine g_aload_n (pc := 28) 1 dd_Realm_mark_0.2.2.2.2.2.2.2.2.2.2.2.2.2.2.2.2.2.2.2.2.2.2.1 rfl rfl ?_
  refine g_dup (pc := 29) dd_Realm_mark_0.2.2.2.2.2.2.2.2.2.2.2.2.2.2.2.2.2.2.2.2.2.2.2 rfl ?_
  obtain ⟨x15, e16, hf⟩ := bd1_e hf
  refine g_get (pc := 30) (ci := 4) (kk := 3) dd_Realm_mark_30.1 rfl in_Realm (by decide) wd_105 (gI_spec e16) ?_
  refine g_iload_n (pc := 33) 0 dd_Realm_mark_30.2.1 rfl rfl ?_
  refine g_iadd (pc := 34) dd_Realm_mark_30.2.2.1 ?_
  obtain ⟨h17, e18, hf⟩ := bd1_e hf
  refine g_put (pc := 35) (ci := 4) (kk := 3) ty_Realm tyok_Realm nm_Realm dd_Realm_mark_30.2.2.2.1 rfl in_Realm (by decide) wd_105 rfl (fun _ => rfl) (fun _ => rfl) (fun _ z => by cases z) e18 ?_
  refine g_iload_n (pc := 38) 0 dd_Realm_mark_30.2.2.2.2.1 rfl rfl ?_
  obtain ⟨rfl, rfl⟩ := ret2 hf
  exact g_iret (pc := 39) rfl dd_Realm_mark_30.2.2.2.2.2
def f_Realm_mark (a0 : Nat) (a1 : Int32) (a2 : Int32) (h : mH) : Option (Int32 × mH) := f_Realm_mark_0 a0 a1 a2 h
theorem c_Realm_mark {sc : Nat × (Nat → Int32)} {a0 : Nat} {a1 : Int32} {a2 : Int32} {h : mH} {r : Int32} {h' : mH} (hf : f_Realm_mark a0 a1 a2 h = some (r, h')) : MM sc y_Realm_mark prog_5_method_20_code 4 (some .int) 0 0 [.ref a0, .int a1, .int a2] h (some (.int r)) h' :=
  mm_of_G si_pn_Realm (Nat.le_of_ble_eq_true rfl) (t_Realm_mark_0 _ _ _ _ _ _ hf)
/-! Realm breakOnce (II)I -/
set_option maxRecDepth 100000 in
theorem dd_Realm_breakOnce_0 : (decode prog_5_method_19_code 0 = .ok (.aload_n 0, 1)) ∧ (decode prog_5_method_19_code 1 = .ok (.iload_n 1, 1)) ∧ (decode prog_5_method_19_code 2 = .ok (.iload_n 2, 1)) ∧ (decode prog_5_method_19_code 3 = .ok (.invokevirtual 132, 3)) ∧ (decode prog_5_method_19_code 6 = .ok (.ifCond .ne 5, 3)) ∧ (decode prog_5_method_19_code 9 = .ok (.iconst (-1), 1)) ∧ (decode prog_5_method_19_code 10 = .ok (.ireturn, 1)) ∧ (decode prog_5_method_19_code 11 = .ok (.aload_n 0, 1)) ∧ (decode prog_5_method_19_code 12 = .ok (.getfield 71, 3)) ∧ (decode prog_5_method_19_code 15 = .ok (.iload_n 2, 1)) ∧ (decode prog_5_method_19_code 16 = .ok (.invokestatic 104, 3)) ∧ (decode prog_5_method_19_code 19 = .ok (.ifCond .eq 12, 3)) ∧ (decode prog_5_method_19_code 22 = .ok (.aload_n 0, 1)) ∧ (decode prog_5_method_19_code 23 = .ok (.getfield 21, 3)) ∧ (decode prog_5_method_19_code 26 = .ok (.iload_n 2, 1)) ∧ (decode prog_5_method_19_code 27 = .ok (.iaload, 1)) ∧ (decode prog_5_method_19_code 28 = .ok (.goto 4, 3)) ∧ (decode prog_5_method_19_code 31 = .ok (.iconst 0, 1)) ∧ (decode prog_5_method_19_code 32 = .ok (.istore_n 3, 1)) ∧ (decode prog_5_method_19_code 33 = .ok (.aload_n 0, 1)) ∧ (decode prog_5_method_19_code 34 = .ok (.iload_n 1, 1)) ∧ (decode prog_5_method_19_code 35 = .ok (.iload_n 2, 1)) ∧ (decode prog_5_method_19_code 36 = .ok (.invokevirtual 129, 3)) ∧ (decode prog_5_method_19_code 39 = .ok (.ifCond .eq 13, 3)) := by
  have h : List.drop 0 prog_5_method_19_code.data.toList = 0x2a :: _ := rfl
  refine ⟨zq_k_n 42 h rfl (zq_o_42 _), ?_⟩
  replace h := zq_nx1 (q := 1) h rfl
  refine ⟨zq_k_n 27 h rfl (zq_o_27 _), ?_⟩
  replace h := zq_nx1 (q := 2) h rfl
  refine ⟨zq_k_n 28 h rfl (zq_o_28 _), ?_⟩
  replace h := zq_nx1 (q := 3) h rfl
  refine ⟨zq_k_u2 182 (fun z => .invokevirtual z) 132 h rfl (zq_o_182 _) (by decide +kernel), ?_⟩
  replace h := zq_nx3 (q := 6) h rfl
  refine ⟨zq_k_s2 154 (fun z => .ifCond .ne z) 5 h rfl (zq_o_154 _) (by decide +kernel), ?_⟩
  replace h := zq_nx3 (q := 9) h rfl
  refine ⟨zq_k_n 2 h rfl (zq_o_2 _), ?_⟩
  replace h := zq_nx1 (q := 10) h rfl
  refine ⟨zq_k_n 172 h rfl (zq_o_172 _), ?_⟩
  replace h := zq_nx1 (q := 11) h rfl
  refine ⟨zq_k_n 42 h rfl (zq_o_42 _), ?_⟩
  replace h := zq_nx1 (q := 12) h rfl
  refine ⟨zq_k_u2 180 (fun z => .getfield z) 71 h rfl (zq_o_180 _) (by decide +kernel), ?_⟩
  replace h := zq_nx3 (q := 15) h rfl
  refine ⟨zq_k_n 28 h rfl (zq_o_28 _), ?_⟩
  replace h := zq_nx1 (q := 16) h rfl
  refine ⟨zq_k_u2 184 (fun z => .invokestatic z) 104 h rfl (zq_o_184 _) (by decide +kernel), ?_⟩
  replace h := zq_nx3 (q := 19) h rfl
  refine ⟨zq_k_s2 153 (fun z => .ifCond .eq z) 12 h rfl (zq_o_153 _) (by decide +kernel), ?_⟩
  replace h := zq_nx3 (q := 22) h rfl
  refine ⟨zq_k_n 42 h rfl (zq_o_42 _), ?_⟩
  replace h := zq_nx1 (q := 23) h rfl
  refine ⟨zq_k_u2 180 (fun z => .getfield z) 21 h rfl (zq_o_180 _) (by decide +kernel), ?_⟩
  replace h := zq_nx3 (q := 26) h rfl
  refine ⟨zq_k_n 28 h rfl (zq_o_28 _), ?_⟩
  replace h := zq_nx1 (q := 27) h rfl
  refine ⟨zq_k_n 46 h rfl (zq_o_46 _), ?_⟩
  replace h := zq_nx1 (q := 28) h rfl
  refine ⟨zq_k_s2 167 (fun z => .goto z) 4 h rfl (zq_o_167 _) (by decide +kernel), ?_⟩
  replace h := zq_nx3 (q := 31) h rfl
  refine ⟨zq_k_n 3 h rfl (zq_o_3 _), ?_⟩
  replace h := zq_nx1 (q := 32) h rfl
  refine ⟨zq_k_n 62 h rfl (zq_o_62 _), ?_⟩
  replace h := zq_nx1 (q := 33) h rfl
  refine ⟨zq_k_n 42 h rfl (zq_o_42 _), ?_⟩
  replace h := zq_nx1 (q := 34) h rfl
  refine ⟨zq_k_n 27 h rfl (zq_o_27 _), ?_⟩
  replace h := zq_nx1 (q := 35) h rfl
  refine ⟨zq_k_n 28 h rfl (zq_o_28 _), ?_⟩
  replace h := zq_nx1 (q := 36) h rfl
  refine ⟨zq_k_u2 182 (fun z => .invokevirtual z) 129 h rfl (zq_o_182 _) (by decide +kernel), ?_⟩
  replace h := zq_nx3 (q := 39) h rfl
  exact zq_k_s2 153 (fun z => .ifCond .eq z) 13 h rfl (zq_o_153 _) (by decide +kernel)
set_option maxRecDepth 100000 in
theorem dd_Realm_breakOnce_42 : (decode prog_5_method_19_code 42 = .ok (.aload_n 0, 1)) ∧ (decode prog_5_method_19_code 43 = .ok (.getfield 36, 3)) ∧ (decode prog_5_method_19_code 46 = .ok (.iload_n 1, 1)) ∧ (decode prog_5_method_19_code 47 = .ok (.iaload, 1)) ∧ (decode prog_5_method_19_code 48 = .ok (.iload_n 3, 1)) ∧ (decode prog_5_method_19_code 49 = .ok (.if_icmp .ge 6, 3)) ∧ (decode prog_5_method_19_code 52 = .ok (.bipush (-2), 2)) ∧ (decode prog_5_method_19_code 54 = .ok (.ireturn, 1)) ∧ (decode prog_5_method_19_code 55 = .ok (.aload_n 0, 1)) ∧ (decode prog_5_method_19_code 56 = .ok (.getfield 65, 3)) ∧ (decode prog_5_method_19_code 59 = .ok (.aload_n 0, 1)) ∧ (decode prog_5_method_19_code 60 = .ok (.getfield 18, 3)) ∧ (decode prog_5_method_19_code 63 = .ok (.iload_n 2, 1)) ∧ (decode prog_5_method_19_code 64 = .ok (.iaload, 1)) ∧ (decode prog_5_method_19_code 65 = .ok (.iadd, 1)) ∧ (decode prog_5_method_19_code 66 = .ok (.aload_n 0, 1)) ∧ (decode prog_5_method_19_code 67 = .ok (.getfield 30, 3)) ∧ (decode prog_5_method_19_code 70 = .ok (.iload_n 1, 1)) ∧ (decode prog_5_method_19_code 71 = .ok (.iaload, 1)) ∧ (decode prog_5_method_19_code 72 = .ok (.iadd, 1)) ∧ (decode prog_5_method_19_code 73 = .ok (.sipush 9999, 3)) ∧ (decode prog_5_method_19_code 76 = .ok (.if_icmp .le 6, 3)) ∧ (decode prog_5_method_19_code 79 = .ok (.bipush (-3), 2)) ∧ (decode prog_5_method_19_code 81 = .ok (.ireturn, 1)) := by
  have h : List.drop 42 prog_5_method_19_code.data.toList = 0x2a :: _ := rfl
  refine ⟨zq_k_n 42 h rfl (zq_o_42 _), ?_⟩
  replace h := zq_nx1 (q := 43) h rfl
  refine ⟨zq_k_u2 180 (fun z => .getfield z) 36 h rfl (zq_o_180 _) (by decide +kernel), ?_⟩
  replace h := zq_nx3 (q := 46) h rfl
  refine ⟨zq_k_n 27 h rfl (zq_o_27 _), ?_⟩
  replace h := zq_nx1 (q := 47) h rfl
  refine ⟨zq_k_n 46 h rfl (zq_o_46 _), ?_⟩
  replace h := zq_nx1 (q := 48) h rfl
  refine ⟨zq_k_n 29 h rfl (zq_o_29 _), ?_⟩
  replace h := zq_nx1 (q := 49) h rfl
  refine ⟨zq_k_s2 162 (fun z => .if_icmp .ge z) 6 h rfl (zq_o_162 _) (by decide +kernel), ?_⟩
  replace h := zq_nx3 (q := 52) h rfl
  refine ⟨zq_k_s1 16 (fun z => .bipush z) (-2) h rfl (zq_o_16 _) (by decide +kernel), ?_⟩
  replace h := zq_nx2 (q := 54) h rfl
  refine ⟨zq_k_n 172 h rfl (zq_o_172 _), ?_⟩
  replace h := zq_nx1 (q := 55) h rfl
  refine ⟨zq_k_n 42 h rfl (zq_o_42 _), ?_⟩
  replace h := zq_nx1 (q := 56) h rfl
  refine ⟨zq_k_u2 180 (fun z => .getfield z) 65 h rfl (zq_o_180 _) (by decide +kernel), ?_⟩
  replace h := zq_nx3 (q := 59) h rfl
  refine ⟨zq_k_n 42 h rfl (zq_o_42 _), ?_⟩
  replace h := zq_nx1 (q := 60) h rfl
  refine ⟨zq_k_u2 180 (fun z => .getfield z) 18 h rfl (zq_o_180 _) (by decide +kernel), ?_⟩
  replace h := zq_nx3 (q := 63) h rfl
  refine ⟨zq_k_n 28 h rfl (zq_o_28 _), ?_⟩
  replace h := zq_nx1 (q := 64) h rfl
  refine ⟨zq_k_n 46 h rfl (zq_o_46 _), ?_⟩
  replace h := zq_nx1 (q := 65) h rfl
  refine ⟨zq_k_n 96 h rfl (zq_o_96 _), ?_⟩
  replace h := zq_nx1 (q := 66) h rfl
  refine ⟨zq_k_n 42 h rfl (zq_o_42 _), ?_⟩
  replace h := zq_nx1 (q := 67) h rfl
  refine ⟨zq_k_u2 180 (fun z => .getfield z) 30 h rfl (zq_o_180 _) (by decide +kernel), ?_⟩
  replace h := zq_nx3 (q := 70) h rfl
  refine ⟨zq_k_n 27 h rfl (zq_o_27 _), ?_⟩
  replace h := zq_nx1 (q := 71) h rfl
  refine ⟨zq_k_n 46 h rfl (zq_o_46 _), ?_⟩
  replace h := zq_nx1 (q := 72) h rfl
  refine ⟨zq_k_n 96 h rfl (zq_o_96 _), ?_⟩
  replace h := zq_nx1 (q := 73) h rfl
  refine ⟨zq_k_s2 17 (fun z => .sipush z) 9999 h rfl (zq_o_17 _) (by decide +kernel), ?_⟩
  replace h := zq_nx3 (q := 76) h rfl
  refine ⟨zq_k_s2 164 (fun z => .if_icmp .le z) 6 h rfl (zq_o_164 _) (by decide +kernel), ?_⟩
  replace h := zq_nx3 (q := 79) h rfl
  refine ⟨zq_k_s1 16 (fun z => .bipush z) (-3) h rfl (zq_o_16 _) (by decide +kernel), ?_⟩
  replace h := zq_nx2 (q := 81) h rfl
  exact zq_k_n 172 h rfl (zq_o_172 _)
set_option maxRecDepth 100000 in
theorem dd_Realm_breakOnce_82 : (decode prog_5_method_19_code 82 = .ok (.aload_n 0, 1)) ∧ (decode prog_5_method_19_code 83 = .ok (.getfield 36, 3)) ∧ (decode prog_5_method_19_code 86 = .ok (.iload_n 1, 1)) ∧ (decode prog_5_method_19_code 87 = .ok (.dup2, 1)) ∧ (decode prog_5_method_19_code 88 = .ok (.iaload, 1)) ∧ (decode prog_5_method_19_code 89 = .ok (.iload_n 3, 1)) ∧ (decode prog_5_method_19_code 90 = .ok (.isub, 1)) ∧ (decode prog_5_method_19_code 91 = .ok (.iastore, 1)) ∧ (decode prog_5_method_19_code 92 = .ok (.aload_n 0, 1)) ∧ (decode prog_5_method_19_code 93 = .ok (.iload_n 1, 1)) ∧ (decode prog_5_method_19_code 94 = .ok (.iload_n 2, 1)) ∧ (decode prog_5_method_19_code 95 = .ok (.invokevirtual 135, 3)) ∧ (decode prog_5_method_19_code 98 = .ok (.ireturn, 1)) := by
  have h : List.drop 82 prog_5_method_19_code.data.toList = 0x2a :: _ := rfl
  refine ⟨zq_k_n 42 h rfl (zq_o_42 _), ?_⟩
  replace h := zq_nx1 (q := 83) h rfl
  refine ⟨zq_k_u2 180 (fun z => .getfield z) 36 h rfl (zq_o_180 _) (by decide +kernel), ?_⟩
  replace h := zq_nx3 (q := 86) h rfl
  refine ⟨zq_k_n 27 h rfl (zq_o_27 _), ?_⟩
  replace h := zq_nx1 (q := 87) h rfl
  refine ⟨zq_k_n 92 h rfl (zq_o_92 _), ?_⟩
  replace h := zq_nx1 (q := 88) h rfl
  refine ⟨zq_k_n 46 h rfl (zq_o_46 _), ?_⟩
  replace h := zq_nx1 (q := 89) h rfl
  refine ⟨zq_k_n 29 h rfl (zq_o_29 _), ?_⟩
  replace h := zq_nx1 (q := 90) h rfl
  refine ⟨zq_k_n 100 h rfl (zq_o_100 _), ?_⟩
  replace h := zq_nx1 (q := 91) h rfl
  refine ⟨zq_k_n 79 h rfl (zq_o_79 _), ?_⟩
  replace h := zq_nx1 (q := 92) h rfl
  refine ⟨zq_k_n 42 h rfl (zq_o_42 _), ?_⟩
  replace h := zq_nx1 (q := 93) h rfl
  refine ⟨zq_k_n 27 h rfl (zq_o_27 _), ?_⟩
  replace h := zq_nx1 (q := 94) h rfl
  refine ⟨zq_k_n 28 h rfl (zq_o_28 _), ?_⟩
  replace h := zq_nx1 (q := 95) h rfl
  refine ⟨zq_k_u2 182 (fun z => .invokevirtual z) 135 h rfl (zq_o_182 _) (by decide +kernel), ?_⟩
  replace h := zq_nx3 (q := 98) h rfl
  exact zq_k_n 172 h rfl (zq_o_172 _)
def f_Realm_breakOnce_52   (h : mH) : Option (Int32 × mH) :=
  some (((-2) : Int32), h)
set_option maxRecDepth 20000 in
theorem t_Realm_breakOnce_52 {sc : Nat × (Nat → Int32)}   (h : mH) (r : Int32) (h' : mH) (hf : f_Realm_breakOnce_52   h = some (r, h')) : G sc y_Realm_breakOnce prog_5_method_19_code 4 (some .int) 3 67 52 [] [] h (some (.int r)) h' := by
  unfold f_Realm_breakOnce_52 at hf
  refine g_bipush (pc := 52) ((-2) : Int32) dd_Realm_breakOnce_42.2.2.2.2.2.2.1 (by decide) ?_
  obtain ⟨rfl, rfl⟩ := ret2 hf
  exact g_iret (pc := 54) rfl dd_Realm_breakOnce_42.2.2.2.2.2.2.2.1
def f_Realm_breakOnce_32  (b0 : Nat) (b1 : Int32) (b2 : Int32) (s0 : Int32) (h : mH) : Option (Int32 × mH) :=
  bd1 (kC h b0 4) fun _ =>
  bd2 (f_Realm_ableAlone b0 b1 b2 h) fun x21 h19 =>
  if x21 = 0 then
    f_Realm_breakOnce_52  h19
  else
    bd1 (gR h19 b0 4 14) fun x22 =>
    bd1 (aI h19 0 x22 b1) fun x24 =>
    if s0 ≤ x24 then
      bd1 (gI h19 b0 4 3) fun x26 =>
      bd1 (gR h19 b0 4 8) fun x28 =>
      bd1 (aI h19 0 x28 b2) fun x30 =>
      bd1 (gR h19 b0 4 12) fun x32 =>
      bd1 (aI h19 0 x32 b1) fun x34 =>
      if ((x26 + x30) + x34) ≤ (9999 : Int32) then
        bd1 (gR h19 b0 4 14) fun x36 =>
        bd1 (aI h19 0 x36 b1) fun x38 =>
        bd1 (sI h19 0 x36 b1 (x38 - s0)) fun h40 =>
        bd1 (kC h40 b0 4) fun _ =>
        bd2 (f_Realm_mark b0 b1 b2 h40) fun x46 h44 =>
        some (x46, h44)
      else
        some (((-3) : Int32), h19)
    else
      f_Realm_breakOnce_52  h19
set_option maxRecDepth 20000 in
theorem t_Realm_breakOnce_32 {sc : Nat × (Nat → Int32)}  (b0 : Nat) (b1 : Int32) (b2 : Int32) (s0 : Int32) (h : mH) (r : Int32) (h' : mH) (hf : f_Realm_breakOnce_32  b0 b1 b2 s0 h = some (r, h')) : G sc y_Realm_breakOnce prog_5_method_19_code 4 (some .int) 3 67 32 [(0, .ref b0), (1, .int b1), (2, .int b2)] [.int s0] h (some (.int r)) h' := by
  unfold f_Realm_breakOnce_32 at hf
  refine g_istore_n (pc := 32) [(3, .int s0), (0, .ref b0), (1, .int b1), (2, .int b2)] dd_Realm_breakOnce_0.2.2.2.2.2.2.2.2.2.2.2.2.2.2.2.2.2.2.1 rfl (Nat.le_of_ble_eq_true rfl) rfl ?_
  refine g_aload_n (pc := 33) 1 dd_Realm_breakOnce_0.2.2.2.2.2.2.2.2.2.2.2.2.2.2.2.2.2.2.2.1 rfl rfl ?_
  refine g_iload_n (pc := 34) 2 dd_Realm_breakOnce_0.2.2.2.2.2.2.2.2.2.2.2.2.2.2.2.2.2.2.2.2.1 rfl rfl ?_
  refine g_iload_n (pc := 35) 3 dd_Realm_breakOnce_0.2.2.2.2.2.2.2.2.2.2.2.2.2.2.2.2.2.2.2.2.2.1 rfl rfl ?_
  obtain ⟨u18, e17, hf⟩ := bd1_e hf
  obtain ⟨x21, h19, e20, hf⟩ := bd2_e hf
  refine g_callV (pc := 36) (ci := 4) [.int b1, .int b2] (site_of si_Realm_ableAlone (by decide) (by decide)) wd_550 wd_551 wd_552 dd_Realm_breakOnce_0.2.2.2.2.2.2.2.2.2.2.2.2.2.2.2.2.2.2.2.2.2.2.1 rfl e17 (Nat.le_of_ble_eq_true rfl) (fun z => absurd z si_na_Realm_ableAlone) (fun z => absurd z si_na_Realm_ableAlone) (fun z => absurd z si_na_Realm_ableAlone) (c_Realm_ableAlone e20) rfl ?_
  refine g_st [.int x21] rfl ?_
  refine g_ifeq (pc := 39) 52 dd_Realm_breakOnce_0.2.2.2.2.2.2.2.2.2.2.2.2.2.2.2.2.2.2.2.2.2.2.2 (by decide) (fun c49 => ?_) (fun c49 => ?_)
  · replace hf := (if_pos c49).symm.trans hf
    refine g_lv [] rfl ?_
    exact t_Realm_breakOnce_52  _ _ _  hf
  · replace hf := (if_neg c49).symm.trans hf
    refine g_aload_n (pc := 42) 1 dd_Realm_breakOnce_42.1 rfl rfl ?_
    obtain ⟨x22, e23, hf⟩ := bd1_e hf
    refine g_get (pc := 43) (ci := 4) (kk := 14) dd_Realm_breakOnce_42.2.1 rfl in_Realm (by decide) wd_142 (gR_spec e23) ?_
    refine g_iload_n (pc := 46) 2 dd_Realm_breakOnce_42.2.2.1 rfl rfl ?_
    obtain ⟨x24, e25, hf⟩ := bd1_e hf
    refine g_iald (pc := 47) dd_Realm_breakOnce_42.2.2.2.1 e25 ?_
    refine g_iload_n (pc := 48) 0 dd_Realm_breakOnce_42.2.2.2.2.1 rfl rfl ?_
    refine g_icmpge (pc := 49) 55 dd_Realm_breakOnce_42.2.2.2.2.2.1 (by decide) (fun c48 => ?_) (fun c48 => ?_)
    · replace hf := (if_pos c48).symm.trans hf
      refine g_aload_n (pc := 55) 1 dd_Realm_breakOnce_42.2.2.2.2.2.2.2.2.1 rfl rfl ?_
      obtain ⟨x26, e27, hf⟩ := bd1_e hf
      refine g_get (pc := 56) (ci := 4) (kk := 3) dd_Realm_breakOnce_42.2.2.2.2.2.2.2.2.2.1 rfl in_Realm (by decide) wd_105 (gI_spec e27) ?_
      refine g_aload_n (pc := 59) 1 dd_Realm_breakOnce_42.2.2.2.2.2.2.2.2.2.2.1 rfl rfl ?_
      obtain ⟨x28, e29, hf⟩ := bd1_e hf
      refine g_get (pc := 60) (ci := 4) (kk := 8) dd_Realm_breakOnce_42.2.2.2.2.2.2.2.2.2.2.2.1 rfl in_Realm (by decide) wd_120 (gR_spec e29) ?_
      refine g_iload_n (pc := 63) 3 dd_Realm_breakOnce_42.2.2.2.2.2.2.2.2.2.2.2.2.1 rfl rfl ?_
      obtain ⟨x30, e31, hf⟩ := bd1_e hf
      refine g_iald (pc := 64) dd_Realm_breakOnce_42.2.2.2.2.2.2.2.2.2.2.2.2.2.1 e31 ?_
      refine g_iadd (pc := 65) dd_Realm_breakOnce_42.2.2.2.2.2.2.2.2.2.2.2.2.2.2.1 ?_
      refine g_aload_n (pc := 66) 1 dd_Realm_breakOnce_42.2.2.2.2.2.2.2.2.2.2.2.2.2.2.2.1 rfl rfl ?_
      obtain ⟨x32, e33, hf⟩ := bd1_e hf
      refine g_get (pc := 67) (ci := 4) (kk := 12) dd_Realm_breakOnce_42.2.2.2.2.2.2.2.2.2.2.2.2.2.2.2.2.1 rfl in_Realm (by decide) wd_134 (gR_spec e33) ?_
      refine g_iload_n (pc := 70) 2 dd_Realm_breakOnce_42.2.2.2.2.2.2.2.2.2.2.2.2.2.2.2.2.2.1 rfl rfl ?_
      obtain ⟨x34, e35, hf⟩ := bd1_e hf
      refine g_iald (pc := 71) dd_Realm_breakOnce_42.2.2.2.2.2.2.2.2.2.2.2.2.2.2.2.2.2.2.1 e35 ?_
      refine g_iadd (pc := 72) dd_Realm_breakOnce_42.2.2.2.2.2.2.2.2.2.2.2.2.2.2.2.2.2.2.2.1 ?_
      refine g_sipush (pc := 73) (9999 : Int32) dd_Realm_breakOnce_42.2.2.2.2.2.2.2.2.2.2.2.2.2.2.2.2.2.2.2.2.1 (by decide) ?_
      refine g_icmple (pc := 76) 82 dd_Realm_breakOnce_42.2.2.2.2.2.2.2.2.2.2.2.2.2.2.2.2.2.2.2.2.2.1 (by decide) (fun c47 => ?_) (fun c47 => ?_)
      · replace hf := (if_pos c47).symm.trans hf
        refine g_aload_n (pc := 82) 1 dd_Realm_breakOnce_82.1 rfl rfl ?_
        obtain ⟨x36, e37, hf⟩ := bd1_e hf
        refine g_get (pc := 83) (ci := 4) (kk := 14) dd_Realm_breakOnce_82.2.1 rfl in_Realm (by decide) wd_142 (gR_spec e37) ?_
        refine g_iload_n (pc := 86) 2 dd_Realm_breakOnce_82.2.2.1 rfl rfl ?_
        refine g_dup2 (pc := 87) dd_Realm_breakOnce_82.2.2.2.1 rfl rfl ?_
        obtain ⟨x38, e39, hf⟩ := bd1_e hf
        refine g_iald (pc := 88) dd_Realm_breakOnce_82.2.2.2.2.1 e39 ?_
        refine g_iload_n (pc := 89) 0 dd_Realm_breakOnce_82.2.2.2.2.2.1 rfl rfl ?_
        refine g_isub (pc := 90) dd_Realm_breakOnce_82.2.2.2.2.2.2.1 ?_
        obtain ⟨h40, e41, hf⟩ := bd1_e hf
        refine g_iast (pc := 91) dd_Realm_breakOnce_82.2.2.2.2.2.2.2.1 e41 ?_
        refine g_aload_n (pc := 92) 1 dd_Realm_breakOnce_82.2.2.2.2.2.2.2.2.1 rfl rfl ?_
        refine g_iload_n (pc := 93) 2 dd_Realm_breakOnce_82.2.2.2.2.2.2.2.2.2.1 rfl rfl ?_
        refine g_iload_n (pc := 94) 3 dd_Realm_breakOnce_82.2.2.2.2.2.2.2.2.2.2.1 rfl rfl ?_
        obtain ⟨u43, e42, hf⟩ := bd1_e hf
        obtain ⟨x46, h44, e45, hf⟩ := bd2_e hf
        refine g_callV (pc := 95) (ci := 4) [.int b1, .int b2] (site_of si_Realm_mark (by decide) (by decide)) wd_630 wd_631 wd_632 dd_Realm_breakOnce_82.2.2.2.2.2.2.2.2.2.2.2.1 rfl e42 (Nat.le_of_ble_eq_true rfl) (fun z => absurd z si_na_Realm_mark) (fun z => absurd z si_na_Realm_mark) (fun z => absurd z si_na_Realm_mark) (c_Realm_mark e45) rfl ?_
        refine g_st [.int x46] rfl ?_
        obtain ⟨rfl, rfl⟩ := ret2 hf
        exact g_iret (pc := 98) rfl dd_Realm_breakOnce_82.2.2.2.2.2.2.2.2.2.2.2.2
      · replace hf := (if_neg c47).symm.trans hf
        refine g_bipush (pc := 79) ((-3) : Int32) dd_Realm_breakOnce_42.2.2.2.2.2.2.2.2.2.2.2.2.2.2.2.2.2.2.2.2.2.2.1 (by decide) ?_
        obtain ⟨rfl, rfl⟩ := ret2 hf
        exact g_iret (pc := 81) rfl dd_Realm_breakOnce_42.2.2.2.2.2.2.2.2.2.2.2.2.2.2.2.2.2.2.2.2.2.2.2
    · replace hf := (if_neg c48).symm.trans hf
      refine g_lv [] rfl ?_
      exact t_Realm_breakOnce_52  _ _ _  hf
def f_Realm_breakOnce_0  (a0 : Nat) (a1 : Int32) (a2 : Int32) (h : mH) : Option (Int32 × mH) :=
  bd1 (kC h a0 4) fun _ =>
  bd2 (f_Realm_hasBoth a0 a1 a2 h) fun x5 h3 =>
  if x5 = 0 then
    some (((-1) : Int32), h3)
  else
    bd1 (gI h3 a0 4 5) fun x6 =>
    bd2 (f_Q_hasBit x6 a2 h3) fun x10 h8 =>
    if x10 = 0 then
      f_Realm_breakOnce_32  a0 a1 a2 (0 : Int32) h8
    else
      bd1 (gR h8 a0 4 9) fun x11 =>
      bd1 (aI h8 0 x11 a2) fun x13 =>
      f_Realm_breakOnce_32  a0 a1 a2 x13 h8
set_option maxRecDepth 20000 in
theorem t_Realm_breakOnce_0 {sc : Nat × (Nat → Int32)}  (a0 : Nat) (a1 : Int32) (a2 : Int32) (h : mH) (r : Int32) (h' : mH) (hf : f_Realm_breakOnce_0  a0 a1 a2 h = some (r, h')) : G sc y_Realm_breakOnce prog_5_method_19_code 4 (some .int) 3 67 0 [(0, .ref a0), (1, .int a1), (2, .int a2)] [] h (some (.int r)) h' := by
  unfold f_Realm_breakOnce_0 at hf
  refine g_aload_n (pc := 0) 0 dd_Realm_breakOnce_0.1 rfl rfl ?_
  refine g_iload_n (pc := 1) 1 dd_Realm_breakOnce_0.2.1 rfl rfl ?_
  refine g_iload_n (pc := 2) 2 dd_Realm_breakOnce_0.2.2.1 rfl rfl ?_
  obtain ⟨u2, e1, hf⟩ := bd1_e hf
  obtain ⟨x5, h3, e4, hf⟩ := bd2_e hf
  refine g_callV (pc := 3) (ci := 4) [.int a1, .int a2] (site_of si_Realm_hasBoth (by decide) (by decide)) wd_629 wd_571 wd_572 dd_Realm_breakOnce_0.2.2.2.1 rfl e1 (Nat.le_of_ble_eq_true rfl) (fun z => absurd z si_na_Realm_hasBoth) (fun z => absurd z si_na_Realm_hasBoth) (fun z => absurd z si_na_Realm_hasBoth) (c_Realm_hasBoth e4) rfl ?_
  refine g_st [.int x5] rfl ?_
  refine g_ifne (pc := 6) 11 dd_Realm_breakOnce_0.2.2.2.2.1 (by decide) (fun c16 => ?_) (fun c16 => ?_)
  · replace hf := (if_neg c16).symm.trans hf
    refine g_aload_n (pc := 11) 0 dd_Realm_breakOnce_0.2.2.2.2.2.2.2.1 rfl rfl ?_
    obtain ⟨x6, e7, hf⟩ := bd1_e hf
    refine g_get (pc := 12) (ci := 4) (kk := 5) dd_Realm_breakOnce_0.2.2.2.2.2.2.2.2.1 rfl in_Realm (by decide) wd_110 (gI_spec e7) ?_
    refine g_iload_n (pc := 15) 2 dd_Realm_breakOnce_0.2.2.2.2.2.2.2.2.2.1 rfl rfl ?_
    obtain ⟨x10, h8, e9, hf⟩ := bd2_e hf
    refine g_callSN (pc := 16) "QuotaLaws" [.int x6, .int a2] (site_of si_Q_hasBit (by decide) (by decide)) wd_524 wd_469 dd_Realm_breakOnce_0.2.2.2.2.2.2.2.2.2.2.1 (Nat.le_of_ble_eq_true rfl) (fun z => absurd z si_na_Q_hasBit) (fun z => absurd z si_na_Q_hasBit) (fun z => absurd z si_na_Q_hasBit) (c_Q_hasBit e9) rfl ?_
    refine g_st [.int x10] rfl ?_
    refine g_ifeq (pc := 19) 31 dd_Realm_breakOnce_0.2.2.2.2.2.2.2.2.2.2.2.1 (by decide) (fun c15 => ?_) (fun c15 => ?_)
    · replace hf := (if_pos c15).symm.trans hf
      refine g_iconst (pc := 31) (0 : Int32) dd_Realm_breakOnce_0.2.2.2.2.2.2.2.2.2.2.2.2.2.2.2.2.2.1 (by decide) ?_
      refine g_lv [0, 1, 2] rfl ?_
      exact t_Realm_breakOnce_32  _ _ _ _ _ _ _  hf
    · replace hf := (if_neg c15).symm.trans hf
      refine g_aload_n (pc := 22) 0 dd_Realm_breakOnce_0.2.2.2.2.2.2.2.2.2.2.2.2.1 rfl rfl ?_
      obtain ⟨x11, e12, hf⟩ := bd1_e hf
      refine g_get (pc := 23) (ci := 4) (kk := 9) dd_Realm_breakOnce_0.2.2.2.2.2.2.2.2.2.2.2.2.2.1 rfl in_Realm (by decide) wd_124 (gR_spec e12) ?_
      refine g_iload_n (pc := 26) 2 dd_Realm_breakOnce_0.2.2.2.2.2.2.2.2.2.2.2.2.2.2.1 rfl rfl ?_
      obtain ⟨x13, e14, hf⟩ := bd1_e hf
      refine g_iald (pc := 27) dd_Realm_breakOnce_0.2.2.2.2.2.2.2.2.2.2.2.2.2.2.2.1 e14 ?_
      refine g_goto (pc := 28) 32 dd_Realm_breakOnce_0.2.2.2.2.2.2.2.2.2.2.2.2.2.2.2.2.1 (by decide) ?_
      refine g_lv [0, 1, 2] rfl ?_
      exact t_Realm_breakOnce_32  _ _ _ _ _ _ _  hf
  · replace hf := (if_pos c16).symm.trans hf
    refine g_iconst (pc := 9) ((-1) : Int32) dd_Realm_breakOnce_0.2.2.2.2.2.1 (by decide) ?_
    obtain ⟨rfl, rfl⟩ := ret2 hf
    exact g_iret (pc := 10) rfl dd_Realm_breakOnce_0.2.2.2.2.2.2.1
def f_Realm_breakOnce (a0 : Nat) (a1 : Int32) (a2 : Int32) (h : mH) : Option (Int32 × mH) := f_Realm_breakOnce_0 a0 a1 a2 h
theorem c_Realm_breakOnce {sc : Nat × (Nat → Int32)} {a0 : Nat} {a1 : Int32} {a2 : Int32} {h : mH} {r : Int32} {h' : mH} (hf : f_Realm_breakOnce a0 a1 a2 h = some (r, h')) : MM sc y_Realm_breakOnce prog_5_method_19_code 4 (some .int) 3 67 [.ref a0, .int a1, .int a2] h (some (.int r)) h' :=
  mm_of_G si_pn_Realm (Nat.le_of_ble_eq_true rfl) (t_Realm_breakOnce_0 _ _ _ _ _ _ hf)
/-! Q breaks (II)I -/
set_option maxRecDepth 100000 in
theorem dd_Q_breaks_0 : (decode prog_1_method_18_code 0 = .ok (.aload_n 0, 1)) ∧ (decode prog_1_method_18_code 1 = .ok (.getfield 19, 3)) ∧ (decode prog_1_method_18_code 4 = .ok (.iload_n 1, 1)) ∧ (decode prog_1_method_18_code 5 = .ok (.iload_n 2, 1)) ∧ (decode prog_1_method_18_code 6 = .ok (.invokevirtual 185, 3)) ∧ (decode prog_1_method_18_code 9 = .ok (.ireturn, 1)) := by
  have h : List.drop 0 prog_1_method_18_code.data.toList = 0x2a :: _ := rfl
  refine ⟨zq_k_n 42 h rfl (zq_o_42 _), ?_⟩
  replace h := zq_nx1 (q := 1) h rfl
  refine ⟨zq_k_u2 180 (fun z => .getfield z) 19 h rfl (zq_o_180 _) (by decide +kernel), ?_⟩
  replace h := zq_nx3 (q := 4) h rfl
  refine ⟨zq_k_n 27 h rfl (zq_o_27 _), ?_⟩
  replace h := zq_nx1 (q := 5) h rfl
  refine ⟨zq_k_n 28 h rfl (zq_o_28 _), ?_⟩
  replace h := zq_nx1 (q := 6) h rfl
  refine ⟨zq_k_u2 182 (fun z => .invokevirtual z) 185 h rfl (zq_o_182 _) (by decide +kernel), ?_⟩
  replace h := zq_nx3 (q := 9) h rfl
  exact zq_k_n 172 h rfl (zq_o_172 _)
def f_Q_breaks_0  (a0 : Nat) (a1 : Int32) (a2 : Int32) (h : mH) : Option (Int32 × mH) :=
  bd1 (gR h a0 0 1) fun x1 =>
  bd1 (kC h x1 4) fun _ =>
  bd2 (f_Realm_breakOnce x1 a1 a2 h) fun x7 h5 =>
  some (x7, h5)
set_option maxRecDepth 20000 in
theorem t_Q_breaks_0 {sc : Nat × (Nat → Int32)}  (a0 : Nat) (a1 : Int32) (a2 : Int32) (h : mH) (r : Int32) (h' : mH) (hf : f_Q_breaks_0  a0 a1 a2 h = some (r, h')) : G sc y_Q_breaks prog_1_method_18_code 3 (some .int) 4 90 0 [(0, .ref a0), (1, .int a1), (2, .int a2)] [] h (some (.int r)) h' := by
  unfold f_Q_breaks_0 at hf
  refine g_aload_n (pc := 0) 0 dd_Q_breaks_0.1 rfl rfl ?_
  obtain ⟨x1, e2, hf⟩ := bd1_e hf
  refine g_get (pc := 1) (ci := 0) (kk := 1) dd_Q_breaks_0.2.1 rfl in_Q (by decide) wd_297 (gR_spec e2) ?_
  refine g_iload_n (pc := 4) 1 dd_Q_breaks_0.2.2.1 rfl rfl ?_
  refine g_iload_n (pc := 5) 2 dd_Q_breaks_0.2.2.2.1 rfl rfl ?_
  obtain ⟨u4, e3, hf⟩ := bd1_e hf
  obtain ⟨x7, h5, e6, hf⟩ := bd2_e hf
  refine g_callV (pc := 6) (ci := 4) [.int a1, .int a2] (site_of si_Realm_breakOnce (by decide) (by decide)) wd_625 wd_626 wd_627 dd_Q_breaks_0.2.2.2.2.1 rfl e3 (Nat.le_of_ble_eq_true rfl) (fun z => absurd z si_na_Realm_breakOnce) (fun z => absurd z si_na_Realm_breakOnce) (fun z => absurd z si_na_Realm_breakOnce) (c_Realm_breakOnce e6) rfl ?_
  refine g_st [.int x7] rfl ?_
  obtain ⟨rfl, rfl⟩ := ret2 hf
  exact g_iret (pc := 9) rfl dd_Q_breaks_0.2.2.2.2.2
def f_Q_breaks (a0 : Nat) (a1 : Int32) (a2 : Int32) (h : mH) : Option (Int32 × mH) := f_Q_breaks_0 a0 a1 a2 h
theorem c_Q_breaks {sc : Nat × (Nat → Int32)} {a0 : Nat} {a1 : Int32} {a2 : Int32} {h : mH} {r : Int32} {h' : mH} (hf : f_Q_breaks a0 a1 a2 h = some (r, h')) : MM sc y_Q_breaks prog_1_method_18_code 3 (some .int) 4 90 [.ref a0, .int a1, .int a2] h (some (.int r)) h' :=
  mm_of_G si_pn_Q (Nat.le_of_ble_eq_true rfl) (t_Q_breaks_0 _ _ _ _ _ _ hf)
/-! Realm lapsing ()I -/
set_option maxRecDepth 100000 in
theorem dd_Realm_lapsing_0 : (decode prog_5_method_21_code 0 = .ok (.iconst 0, 1)) ∧ (decode prog_5_method_21_code 1 = .ok (.istore_n 1, 1)) ∧ (decode prog_5_method_21_code 2 = .ok (.iconst 0, 1)) ∧ (decode prog_5_method_21_code 3 = .ok (.istore_n 2, 1)) ∧ (decode prog_5_method_21_code 4 = .ok (.iload_n 2, 1)) ∧ (decode prog_5_method_21_code 5 = .ok (.aload_n 0, 1)) ∧ (decode prog_5_method_21_code 6 = .ok (.getfield 55, 3)) ∧ (decode prog_5_method_21_code 9 = .ok (.if_icmp .ge 29, 3)) ∧ (decode prog_5_method_21_code 12 = .ok (.iload_n 1, 1)) ∧ (decode prog_5_method_21_code 13 = .ok (.aload_n 0, 1)) ∧ (decode prog_5_method_21_code 14 = .ok (.iload_n 2, 1)) ∧ (decode prog_5_method_21_code 15 = .ok (.invokevirtual 117, 3)) ∧ (decode prog_5_method_21_code 18 = .ok (.ifCond .le 11, 3)) ∧ (decode prog_5_method_21_code 21 = .ok (.aload_n 0, 1)) ∧ (decode prog_5_method_21_code 22 = .ok (.iload_n 2, 1)) ∧ (decode prog_5_method_21_code 23 = .ok (.invokevirtual 138, 3)) ∧ (decode prog_5_method_21_code 26 = .ok (.goto 4, 3)) ∧ (decode prog_5_method_21_code 29 = .ok (.iconst 0, 1)) ∧ (decode prog_5_method_21_code 30 = .ok (.ior, 1)) ∧ (decode prog_5_method_21_code 31 = .ok (.istore_n 1, 1)) ∧ (decode prog_5_method_21_code 32 = .ok (.iinc 2 1, 3)) ∧ (decode prog_5_method_21_code 35 = .ok (.goto (-31), 3)) ∧ (decode prog_5_method_21_code 38 = .ok (.iload_n 1, 1)) ∧ (decode prog_5_method_21_code 39 = .ok (.aload_n 0, 1)) := by
  have h : List.drop 0 prog_5_method_21_code.data.toList = 0x03 :: _ := rfl
  refine ⟨zq_k_n 3 h rfl (zq_o_3 _), ?_⟩
  replace h := zq_nx1 (q := 1) h rfl
  refine ⟨zq_k_n 60 h rfl (zq_o_60 _), ?_⟩
  replace h := zq_nx1 (q := 2) h rfl
  refine ⟨zq_k_n 3 h rfl (zq_o_3 _), ?_⟩
  replace h := zq_nx1 (q := 3) h rfl
  refine ⟨zq_k_n 61 h rfl (zq_o_61 _), ?_⟩
  replace h := zq_nx1 (q := 4) h rfl
  refine ⟨zq_k_n 28 h rfl (zq_o_28 _), ?_⟩
  replace h := zq_nx1 (q := 5) h rfl
  refine ⟨zq_k_n 42 h rfl (zq_o_42 _), ?_⟩
  replace h := zq_nx1 (q := 6) h rfl
  refine ⟨zq_k_u2 180 (fun z => .getfield z) 55 h rfl (zq_o_180 _) (by decide +kernel), ?_⟩
  replace h := zq_nx3 (q := 9) h rfl
  refine ⟨zq_k_s2 162 (fun z => .if_icmp .ge z) 29 h rfl (zq_o_162 _) (by decide +kernel), ?_⟩
  replace h := zq_nx3 (q := 12) h rfl
  refine ⟨zq_k_n 27 h rfl (zq_o_27 _), ?_⟩
  replace h := zq_nx1 (q := 13) h rfl
  refine ⟨zq_k_n 42 h rfl (zq_o_42 _), ?_⟩
  replace h := zq_nx1 (q := 14) h rfl
  refine ⟨zq_k_n 28 h rfl (zq_o_28 _), ?_⟩
  replace h := zq_nx1 (q := 15) h rfl
  refine ⟨zq_k_u2 182 (fun z => .invokevirtual z) 117 h rfl (zq_o_182 _) (by decide +kernel), ?_⟩
  replace h := zq_nx3 (q := 18) h rfl
  refine ⟨zq_k_s2 158 (fun z => .ifCond .le z) 11 h rfl (zq_o_158 _) (by decide +kernel), ?_⟩
  replace h := zq_nx3 (q := 21) h rfl
  refine ⟨zq_k_n 42 h rfl (zq_o_42 _), ?_⟩
  replace h := zq_nx1 (q := 22) h rfl
  refine ⟨zq_k_n 28 h rfl (zq_o_28 _), ?_⟩
  replace h := zq_nx1 (q := 23) h rfl
  refine ⟨zq_k_u2 182 (fun z => .invokevirtual z) 138 h rfl (zq_o_182 _) (by decide +kernel), ?_⟩
  replace h := zq_nx3 (q := 26) h rfl
  refine ⟨zq_k_s2 167 (fun z => .goto z) 4 h rfl (zq_o_167 _) (by decide +kernel), ?_⟩
  replace h := zq_nx3 (q := 29) h rfl
  refine ⟨zq_k_n 3 h rfl (zq_o_3 _), ?_⟩
  replace h := zq_nx1 (q := 30) h rfl
  refine ⟨zq_k_n 128 h rfl (zq_o_128 _), ?_⟩
  replace h := zq_nx1 (q := 31) h rfl
  refine ⟨zq_k_n 60 h rfl (zq_o_60 _), ?_⟩
  replace h := zq_nx1 (q := 32) h rfl
  refine ⟨zq_k_iinc 2 1 h rfl (zq_o_132 _) (by decide +kernel) (by decide +kernel), ?_⟩
  replace h := zq_nx3 (q := 35) h rfl
  refine ⟨zq_k_s2 167 (fun z => .goto z) (-31) h rfl (zq_o_167 _) (by decide +kernel), ?_⟩
  replace h := zq_nx3 (q := 38) h rfl
  refine ⟨zq_k_n 27 h rfl (zq_o_27 _), ?_⟩
  replace h := zq_nx1 (q := 39) h rfl
  exact zq_k_n 42 h rfl (zq_o_42 _)
set_option maxRecDepth 100000 in
theorem dd_Realm_lapsing_40 : (decode prog_5_method_21_code 40 = .ok (.getfield 68, 3)) ∧ (decode prog_5_method_21_code 43 = .ok (.iand, 1)) ∧ (decode prog_5_method_21_code 44 = .ok (.ireturn, 1)) := by
  have h : List.drop 40 prog_5_method_21_code.data.toList = 0xb4 :: _ := rfl
  refine ⟨zq_k_u2 180 (fun z => .getfield z) 68 h rfl (zq_o_180 _) (by decide +kernel), ?_⟩
  replace h := zq_nx3 (q := 43) h rfl
  refine ⟨zq_k_n 126 h rfl (zq_o_126 _), ?_⟩
  replace h := zq_nx1 (q := 44) h rfl
  exact zq_k_n 172 h rfl (zq_o_172 _)
def f_Realm_lapsing_30 (rec4 : Nat → Int32 → Int32 → mH → Option (Int32 × mH)) (b0 : Nat) (b2 : Int32) (s0 : Int32) (s1 : Int32) (h : mH) : Option (Int32 × mH) :=
  rec4 b0 (s0 ||| s1) (b2 + (1 : Int32)) h
set_option maxRecDepth 20000 in
theorem t_Realm_lapsing_30 {sc : Nat × (Nat → Int32)} (rec4 : Nat → Int32 → Int32 → mH → Option (Int32 × mH)) (hrec4 : ∀ (b0 : Nat) (b1 : Int32) (b2 : Int32) (h : mH) (r : Int32) (h' : mH), rec4 b0 b1 b2 h = some (r, h') → G sc y_Realm_lapsing prog_5_method_21_code 3 (some .int) 2 45 4 [(0, .ref b0), (1, .int b1), (2, .int b2)] [] h (some (.int r)) h') (b0 : Nat) (b2 : Int32) (s0 : Int32) (s1 : Int32) (h : mH) (r : Int32) (h' : mH) (hf : f_Realm_lapsing_30 rec4 b0 b2 s0 s1 h = some (r, h')) : G sc y_Realm_lapsing prog_5_method_21_code 3 (some .int) 2 45 30 [(0, .ref b0), (2, .int b2)] [.int s1, .int s0] h (some (.int r)) h' := by
  unfold f_Realm_lapsing_30 at hf
  refine g_ior (pc := 30) dd_Realm_lapsing_0.2.2.2.2.2.2.2.2.2.2.2.2.2.2.2.2.2.2.1 ?_
  refine g_istore_n (pc := 31) [(1, .int (s0 ||| s1)), (0, .ref b0), (2, .int b2)] dd_Realm_lapsing_0.2.2.2.2.2.2.2.2.2.2.2.2.2.2.2.2.2.2.2.1 rfl (Nat.le_of_ble_eq_true rfl) rfl ?_
  refine g_iinc (pc := 32) 2 (b2 + (1 : Int32)) [(2, .int (b2 + (1 : Int32))), (1, .int (s0 ||| s1)), (0, .ref b0)] dd_Realm_lapsing_0.2.2.2.2.2.2.2.2.2.2.2.2.2.2.2.2.2.2.2.2.1 rfl rfl (Nat.le_of_ble_eq_true rfl) rfl ?_
  refine g_goto (pc := 35) 4 dd_Realm_lapsing_0.2.2.2.2.2.2.2.2.2.2.2.2.2.2.2.2.2.2.2.2.2.1 (by decide) ?_
  refine g_lv [2, 1, 0] rfl ?_
  exact hrec4 _ _ _ _ _ _  hf
def f_Realm_lapsing_4b (rec4 : Nat → Int32 → Int32 → mH → Option (Int32 × mH)) (b0 : Nat) (b1 : Int32) (b2 : Int32) (h : mH) : Option (Int32 × mH) :=
  bd1 (gI h b0 4 0) fun x1 =>
  if x1 ≤ b2 then
    bd1 (gI h b0 4 4) fun x3 =>
    some (b1 &&& x3, h)
  else
    bd1 (kC h b0 4) fun _ =>
    bd2 (f_Realm_needOf b0 b2 h) fun x9 h7 =>
    if x9 ≤ 0 then
      f_Realm_lapsing_30 rec4 b0 b2 b1 (0 : Int32) h7
    else
      bd1 (kC h7 b0 4) fun _ =>
      bd2 (f_Realm_chainOf b0 b2 h7) fun x14 h12 =>
      f_Realm_lapsing_30 rec4 b0 b2 b1 x14 h12
set_option maxRecDepth 20000 in
theorem t_Realm_lapsing_4b {sc : Nat × (Nat → Int32)} (rec4 : Nat → Int32 → Int32 → mH → Option (Int32 × mH)) (hrec4 : ∀ (b0 : Nat) (b1 : Int32) (b2 : Int32) (h : mH) (r : Int32) (h' : mH), rec4 b0 b1 b2 h = some (r, h') → G sc y_Realm_lapsing prog_5_method_21_code 3 (some .int) 2 45 4 [(0, .ref b0), (1, .int b1), (2, .int b2)] [] h (some (.int r)) h') (b0 : Nat) (b1 : Int32) (b2 : Int32) (h : mH) (r : Int32) (h' : mH) (hf : f_Realm_lapsing_4b rec4 b0 b1 b2 h = some (r, h')) : G sc y_Realm_lapsing prog_5_method_21_code 3 (some .int) 2 45 4 [(0, .ref b0), (1, .int b1), (2, .int b2)] [] h (some (.int r)) h' := by
  unfold f_Realm_lapsing_4b at hf
  refine g_iload_n (pc := 4) 2 dd_Realm_lapsing_0.2.2.2.2.1 rfl rfl ?_
  refine g_aload_n (pc := 5) 0 dd_Realm_lapsing_0.2.2.2.2.2.1 rfl rfl ?_
  obtain ⟨x1, e2, hf⟩ := bd1_e hf
  refine g_get (pc := 6) (ci := 4) (kk := 0) dd_Realm_lapsing_0.2.2.2.2.2.2.1 rfl in_Realm (by decide) wd_93 (gI_spec e2) ?_
  refine g_icmpge (pc := 9) 38 dd_Realm_lapsing_0.2.2.2.2.2.2.2.1 (by decide) (fun c16 => ?_) (fun c16 => ?_)
  · replace hf := (if_pos c16).symm.trans hf
    refine g_iload_n (pc := 38) 1 dd_Realm_lapsing_0.2.2.2.2.2.2.2.2.2.2.2.2.2.2.2.2.2.2.2.2.2.2.1 rfl rfl ?_
    refine g_aload_n (pc := 39) 0 dd_Realm_lapsing_0.2.2.2.2.2.2.2.2.2.2.2.2.2.2.2.2.2.2.2.2.2.2.2 rfl rfl ?_
    obtain ⟨x3, e4, hf⟩ := bd1_e hf
    refine g_get (pc := 40) (ci := 4) (kk := 4) dd_Realm_lapsing_40.1 rfl in_Realm (by decide) wd_107 (gI_spec e4) ?_
    refine g_iand (pc := 43) dd_Realm_lapsing_40.2.1 ?_
    obtain ⟨rfl, rfl⟩ := ret2 hf
    exact g_iret (pc := 44) rfl dd_Realm_lapsing_40.2.2
  · replace hf := (if_neg c16).symm.trans hf
    refine g_iload_n (pc := 12) 1 dd_Realm_lapsing_0.2.2.2.2.2.2.2.2.1 rfl rfl ?_
    refine g_aload_n (pc := 13) 0 dd_Realm_lapsing_0.2.2.2.2.2.2.2.2.2.1 rfl rfl ?_
    refine g_iload_n (pc := 14) 2 dd_Realm_lapsing_0.2.2.2.2.2.2.2.2.2.2.1 rfl rfl ?_
    obtain ⟨u6, e5, hf⟩ := bd1_e hf
    obtain ⟨x9, h7, e8, hf⟩ := bd2_e hf
    refine g_callV (pc := 15) (ci := 4) [.int b2] (site_of si_Realm_needOf (by decide) (by decide)) wd_646 wd_521 wd_522 dd_Realm_lapsing_0.2.2.2.2.2.2.2.2.2.2.2.1 rfl e5 (Nat.le_of_ble_eq_true rfl) (fun z => absurd z si_na_Realm_needOf) (fun z => absurd z si_na_Realm_needOf) (fun z => absurd z si_na_Realm_needOf) (c_Realm_needOf e8) rfl ?_
    refine g_st [.int x9, .int b1] rfl ?_
    refine g_ifle (pc := 18) 29 dd_Realm_lapsing_0.2.2.2.2.2.2.2.2.2.2.2.2.1 (by decide) (fun c15 => ?_) (fun c15 => ?_)
    · replace hf := (if_pos c15).symm.trans hf
      refine g_iconst (pc := 29) (0 : Int32) dd_Realm_lapsing_0.2.2.2.2.2.2.2.2.2.2.2.2.2.2.2.2.2.1 (by decide) ?_
      refine g_lv [0, 2] rfl ?_
      exact t_Realm_lapsing_30 rec4 hrec4 _ _ _ _ _ _ _  hf
    · replace hf := (if_neg c15).symm.trans hf
      refine g_aload_n (pc := 21) 0 dd_Realm_lapsing_0.2.2.2.2.2.2.2.2.2.2.2.2.2.1 rfl rfl ?_
      refine g_iload_n (pc := 22) 2 dd_Realm_lapsing_0.2.2.2.2.2.2.2.2.2.2.2.2.2.2.1 rfl rfl ?_
      obtain ⟨u11, e10, hf⟩ := bd1_e hf
      obtain ⟨x14, h12, e13, hf⟩ := bd2_e hf
      refine g_callV (pc := 23) (ci := 4) [.int b2] (site_of si_Realm_chainOf (by decide) (by decide)) wd_647 wd_533 wd_534 dd_Realm_lapsing_0.2.2.2.2.2.2.2.2.2.2.2.2.2.2.2.1 rfl e10 (Nat.le_of_ble_eq_true rfl) (fun z => absurd z si_na_Realm_chainOf) (fun z => absurd z si_na_Realm_chainOf) (fun z => absurd z si_na_Realm_chainOf) (c_Realm_chainOf e13) rfl ?_
      refine g_st [.int x14, .int b1] rfl ?_
      refine g_goto (pc := 26) 30 dd_Realm_lapsing_0.2.2.2.2.2.2.2.2.2.2.2.2.2.2.2.2.1 (by decide) ?_
      refine g_lv [0, 2] rfl ?_
      exact t_Realm_lapsing_30 rec4 hrec4 _ _ _ _ _ _ _  hf
def f_Realm_lapsing_4  : Nat → Nat → Int32 → Int32 → mH → Option (Int32 × mH)
  | 0 => fun _ _ _ _ => none
  | n + 1 => f_Realm_lapsing_4b  (f_Realm_lapsing_4  n)
theorem t_Realm_lapsing_4 {sc : Nat × (Nat → Int32)}  : ∀ (n : Nat) (b0 : Nat) (b1 : Int32) (b2 : Int32) (h : mH) (r : Int32) (h' : mH) (hf : f_Realm_lapsing_4  n b0 b1 b2 h = some (r, h')), G sc y_Realm_lapsing prog_5_method_21_code 3 (some .int) 2 45 4 [(0, .ref b0), (1, .int b1), (2, .int b2)] [] h (some (.int r)) h'
  | 0, _, _, _, _, _, _, hf => by cases hf
  | n + 1, _, _, _, _, _, _, hf => t_Realm_lapsing_4b  (f_Realm_lapsing_4  n) (t_Realm_lapsing_4  n) _ _ _ _ _ _ hf
def f_Realm_lapsing_0  (a0 : Nat) (h : mH) : Option (Int32 × mH) :=
  f_Realm_lapsing_4  FU a0 (0 : Int32) (0 : Int32) h
set_option maxRecDepth 20000 in
theorem t_Realm_lapsing_0 {sc : Nat × (Nat → Int32)}  (a0 : Nat) (h : mH) (r : Int32) (h' : mH) (hf : f_Realm_lapsing_0  a0 h = some (r, h')) : G sc y_Realm_lapsing prog_5_method_21_code 3 (some .int) 2 45 0 [(0, .ref a0)] [] h (some (.int r)) h' := by
  unfold f_Realm_lapsing_0 at hf
  refine g_iconst (pc := 0) (0 : Int32) dd_Realm_lapsing_0.1 (by decide) ?_
  refine g_istore_n (pc := 1) [(1, .int (0 : Int32)), (0, .ref a0)] dd_Realm_lapsing_0.2.1 rfl (Nat.le_of_ble_eq_true rfl) rfl ?_
  refine g_iconst (pc := 2) (0 : Int32) dd_Realm_lapsing_0.2.2.1 (by decide) ?_
  refine g_istore_n (pc := 3) [(2, .int (0 : Int32)), (1, .int (0 : Int32)), (0, .ref a0)] dd_Realm_lapsing_0.2.2.2.1 rfl (Nat.le_of_ble_eq_true rfl) rfl ?_
  refine g_lv [2, 1, 0] rfl ?_
  exact t_Realm_lapsing_4  FU _ _ _ _ _ _  hf
def f_Realm_lapsing (a0 : Nat) (h : mH) : Option (Int32 × mH) := f_Realm_lapsing_0 a0 h
theorem c_Realm_lapsing {sc : Nat × (Nat → Int32)} {a0 : Nat} {h : mH} {r : Int32} {h' : mH} (hf : f_Realm_lapsing a0 h = some (r, h')) : MM sc y_Realm_lapsing prog_5_method_21_code 3 (some .int) 2 45 [.ref a0] h (some (.int r)) h' :=
  mm_of_G si_pn_Realm (Nat.le_of_ble_eq_true rfl) (t_Realm_lapsing_0 _ _ _ _ hf)
/-! Realm endYear ()I -/
set_option maxRecDepth 100000 in
theorem dd_Realm_endYear_0 : (decode prog_5_method_22_code 0 = .ok (.aload_n 0, 1)) ∧ (decode prog_5_method_22_code 1 = .ok (.invokevirtual 141, 3)) ∧ (decode prog_5_method_22_code 4 = .ok (.istore_n 1, 1)) ∧ (decode prog_5_method_22_code 5 = .ok (.aload_n 0, 1)) ∧ (decode prog_5_method_22_code 6 = .ok (.dup, 1)) ∧ (decode prog_5_method_22_code 7 = .ok (.getfield 68, 3)) ∧ (decode prog_5_method_22_code 10 = .ok (.iload_n 1, 1)) ∧ (decode prog_5_method_22_code 11 = .ok (.iconst (-1), 1)) ∧ (decode prog_5_method_22_code 12 = .ok (.ixor, 1)) ∧ (decode prog_5_method_22_code 13 = .ok (.iand, 1)) ∧ (decode prog_5_method_22_code 14 = .ok (.putfield 68, 3)) ∧ (decode prog_5_method_22_code 17 = .ok (.aload_n 0, 1)) ∧ (decode prog_5_method_22_code 18 = .ok (.getfield 45, 3)) ∧ (decode prog_5_method_22_code 21 = .ok (.iconst 0, 1)) ∧ (decode prog_5_method_22_code 22 = .ok (.invokestatic 77, 3)) ∧ (decode prog_5_method_22_code 25 = .ok (.aload_n 0, 1)) ∧ (decode prog_5_method_22_code 26 = .ok (.dup, 1)) ∧ (decode prog_5_method_22_code 27 = .ok (.getfield 62, 3)) ∧ (decode prog_5_method_22_code 30 = .ok (.iconst 1, 1)) ∧ (decode prog_5_method_22_code 31 = .ok (.iadd, 1)) ∧ (decode prog_5_method_22_code 32 = .ok (.putfield 62, 3)) ∧ (decode prog_5_method_22_code 35 = .ok (.iload_n 1, 1)) ∧ (decode prog_5_method_22_code 36 = .ok (.ireturn, 1)) := by
  have h : List.drop 0 prog_5_method_22_code.data.toList = 0x2a :: _ := rfl
  refine ⟨zq_k_n 42 h rfl (zq_o_42 _), ?_⟩
  replace h := zq_nx1 (q := 1) h rfl
  refine ⟨zq_k_u2 182 (fun z => .invokevirtual z) 141 h rfl (zq_o_182 _) (by decide +kernel), ?_⟩
  replace h := zq_nx3 (q := 4) h rfl
  refine ⟨zq_k_n 60 h rfl (zq_o_60 _), ?_⟩
  replace h := zq_nx1 (q := 5) h rfl
  refine ⟨zq_k_n 42 h rfl (zq_o_42 _), ?_⟩
  replace h := zq_nx1 (q := 6) h rfl
  refine ⟨zq_k_n 89 h rfl (zq_o_89 _), ?_⟩
  replace h := zq_nx1 (q := 7) h rfl
  refine ⟨zq_k_u2 180 (fun z => .getfield z) 68 h rfl (zq_o_180 _) (by decide +kernel), ?_⟩
  replace h := zq_nx3 (q := 10) h rfl
  refine ⟨zq_k_n 27 h rfl (zq_o_27 _), ?_⟩
  replace h := zq_nx1 (q := 11) h rfl
  refine ⟨zq_k_n 2 h rfl (zq_o_2 _), ?_⟩
  replace h := zq_nx1 (q := 12) h rfl
  refine ⟨zq_k_n 130 h rfl (zq_o_130 _), ?_⟩
  replace h := zq_nx1 (q := 13) h rfl
  refine ⟨zq_k_n 126 h rfl (zq_o_126 _), ?_⟩
  replace h := zq_nx1 (q := 14) h rfl
  refine ⟨zq_k_u2 181 (fun z => .putfield z) 68 h rfl (zq_o_181 _) (by decide +kernel), ?_⟩
  replace h := zq_nx3 (q := 17) h rfl
  refine ⟨zq_k_n 42 h rfl (zq_o_42 _), ?_⟩
  replace h := zq_nx1 (q := 18) h rfl
  refine ⟨zq_k_u2 180 (fun z => .getfield z) 45 h rfl (zq_o_180 _) (by decide +kernel), ?_⟩
  replace h := zq_nx3 (q := 21) h rfl
  refine ⟨zq_k_n 3 h rfl (zq_o_3 _), ?_⟩
  replace h := zq_nx1 (q := 22) h rfl
  refine ⟨zq_k_u2 184 (fun z => .invokestatic z) 77 h rfl (zq_o_184 _) (by decide +kernel), ?_⟩
  replace h := zq_nx3 (q := 25) h rfl
  refine ⟨zq_k_n 42 h rfl (zq_o_42 _), ?_⟩
  replace h := zq_nx1 (q := 26) h rfl
  refine ⟨zq_k_n 89 h rfl (zq_o_89 _), ?_⟩
  replace h := zq_nx1 (q := 27) h rfl
  refine ⟨zq_k_u2 180 (fun z => .getfield z) 62 h rfl (zq_o_180 _) (by decide +kernel), ?_⟩
  replace h := zq_nx3 (q := 30) h rfl
  refine ⟨zq_k_n 4 h rfl (zq_o_4 _), ?_⟩
  replace h := zq_nx1 (q := 31) h rfl
  refine ⟨zq_k_n 96 h rfl (zq_o_96 _), ?_⟩
  replace h := zq_nx1 (q := 32) h rfl
  refine ⟨zq_k_u2 181 (fun z => .putfield z) 62 h rfl (zq_o_181 _) (by decide +kernel), ?_⟩
  replace h := zq_nx3 (q := 35) h rfl
  refine ⟨zq_k_n 27 h rfl (zq_o_27 _), ?_⟩
  replace h := zq_nx1 (q := 36) h rfl
  exact zq_k_n 172 h rfl (zq_o_172 _)
def f_Realm_endYear_0  (a0 : Nat) (h : mH) : Option (Int32 × mH) :=
  bd1 (kC h a0 4) fun _ =>
  bd2 (f_Realm_lapsing a0 h) fun x5 h3 =>
  bd1 (gI h3 a0 4 4) fun x6 =>
  bd1 (pV h3 a0 4 4 (.int (x6 &&& (x5 ^^^ ((-1) : Int32))))) fun h8 =>
  bd1 (gR h8 a0 4 17) fun x10 =>
  bd1 (f_Arrays_fillI x10 (0 : Int32) h8) fun h12 =>
  bd1 (gI h12 a0 4 2) fun x14 =>
  bd1 (pV h12 a0 4 2 (.int (x14 + (1 : Int32)))) fun h16 =>
  some (x5, h16)
set_option maxRecDepth 20000 in
theorem t_Realm_endYear_0 {sc : Nat × (Nat → Int32)}  (a0 : Nat) (h : mH) (r : Int32) (h' : mH) (hf : f_Realm_endYear_0  a0 h = some (r, h')) : G sc y_Realm_endYear prog_5_method_22_code 2 (some .int) 3 67 0 [(0, .ref a0)] [] h (some (.int r)) h' := by
  unfold f_Realm_endYear_0 at hf
  refine g_aload_n (pc := 0) 0 dd_Realm_endYear_0.1 rfl rfl ?_
  obtain ⟨u2, e1, hf⟩ := bd1_e hf
  obtain ⟨x5, h3, e4, hf⟩ := bd2_e hf
  refine g_callV (pc := 1) (ci := 4) [] (site_of si_Realm_lapsing (by decide) (by decide)) wd_642 wd_643 wd_644 dd_Realm_endYear_0.2.1 rfl e1 (Nat.le_of_ble_eq_true rfl) (fun z => absurd z si_na_Realm_lapsing) (fun z => absurd z si_na_Realm_lapsing) (fun z => absurd z si_na_Realm_lapsing) (c_Realm_lapsing e4) rfl ?_
  refine g_st [.int x5] rfl ?_
  refine g_istore_n (pc := 4) [(1, .int x5), (0, .ref a0)] dd_Realm_endYear_0.2.2.1 rfl (Nat.le_of_ble_eq_true rfl) rfl ?_
  refine g_aload_n (pc := 5) 1 dd_Realm_endYear_0.2.2.2.1 rfl rfl ?_
  refine g_dup (pc := 6) dd_Realm_endYear_0.2.2.2.2.1 rfl ?_
  obtain ⟨x6, e7, hf⟩ := bd1_e hf
  refine g_get (pc := 7) (ci := 4) (kk := 4) dd_Realm_endYear_0.2.2.2.2.2.1 rfl in_Realm (by decide) wd_107 (gI_spec e7) ?_
  refine g_iload_n (pc := 10) 0 dd_Realm_endYear_0.2.2.2.2.2.2.1 rfl rfl ?_
  refine g_iconst (pc := 11) ((-1) : Int32) dd_Realm_endYear_0.2.2.2.2.2.2.2.1 (by decide) ?_
  refine g_ixor (pc := 12) dd_Realm_endYear_0.2.2.2.2.2.2.2.2.1 ?_
  refine g_iand (pc := 13) dd_Realm_endYear_0.2.2.2.2.2.2.2.2.2.1 ?_
  obtain ⟨h8, e9, hf⟩ := bd1_e hf
  refine g_put (pc := 14) (ci := 4) (kk := 4) ty_Realm tyok_Realm nm_Realm dd_Realm_endYear_0.2.2.2.2.2.2.2.2.2.2.1 rfl in_Realm (by decide) wd_107 rfl (fun _ => rfl) (fun _ => rfl) (fun _ z => by cases z) e9 ?_
  refine g_aload_n (pc := 17) 1 dd_Realm_endYear_0.2.2.2.2.2.2.2.2.2.2.2.1 rfl rfl ?_
  obtain ⟨x10, e11, hf⟩ := bd1_e hf
  refine g_get (pc := 18) (ci := 4) (kk := 17) dd_Realm_endYear_0.2.2.2.2.2.2.2.2.2.2.2.2.1 rfl in_Realm (by decide) wd_152 (gR_spec e11) ?_
  refine g_iconst (pc := 21) (0 : Int32) dd_Realm_endYear_0.2.2.2.2.2.2.2.2.2.2.2.2.2.1 (by decide) ?_
  obtain ⟨h12, e13, hf⟩ := bd1_e hf
  refine g_callS (pc := 22) [.ref x10, .int (0 : Int32)] (site_of si_Arrays_fillI (by decide) (by decide)) wd_354 wd_355 dd_Realm_endYear_0.2.2.2.2.2.2.2.2.2.2.2.2.2.2.1 (Nat.le_of_ble_eq_true rfl) (fun z => absurd z si_na_Arrays_fillI) (fun z => absurd z si_na_Arrays_fillI) (fun z => absurd z si_na_Arrays_fillI) (c_Arrays_fillI e13) rfl ?_
  refine g_st [] rfl ?_
  refine g_aload_n (pc := 25) 1 dd_Realm_endYear_0.2.2.2.2.2.2.2.2.2.2.2.2.2.2.2.1 rfl rfl ?_
  refine g_dup (pc := 26) dd_Realm_endYear_0.2.2.2.2.2.2.2.2.2.2.2.2.2.2.2.2.1 rfl ?_
  obtain ⟨x14, e15, hf⟩ := bd1_e hf
  refine g_get (pc := 27) (ci := 4) (kk := 2) dd_Realm_endYear_0.2.2.2.2.2.2.2.2.2.2.2.2.2.2.2.2.2.1 rfl in_Realm (by decide) wd_103 (gI_spec e15) ?_
  refine g_iconst (pc := 30) (1 : Int32) dd_Realm_endYear_0.2.2.2.2.2.2.2.2.2.2.2.2.2.2.2.2.2.2.1 (by decide) ?_
  refine g_iadd (pc := 31) dd_Realm_endYear_0.2.2.2.2.2.2.2.2.2.2.2.2.2.2.2.2.2.2.2.1 ?_
  obtain ⟨h16, e17, hf⟩ := bd1_e hf
  refine g_put (pc := 32) (ci := 4) (kk := 2) ty_Realm tyok_Realm nm_Realm dd_Realm_endYear_0.2.2.2.2.2.2.2.2.2.2.2.2.2.2.2.2.2.2.2.2.1 rfl in_Realm (by decide) wd_103 rfl (fun _ => rfl) (fun _ => rfl) (fun _ z => by cases z) e17 ?_
  refine g_iload_n (pc := 35) 0 dd_Realm_endYear_0.2.2.2.2.2.2.2.2.2.2.2.2.2.2.2.2.2.2.2.2.2.1 rfl rfl ?_
  obtain ⟨rfl, rfl⟩ := ret2 hf
  exact g_iret (pc := 36) rfl dd_Realm_endYear_0.2.2.2.2.2.2.2.2.2.2.2.2.2.2.2.2.2.2.2.2.2.2
def f_Realm_endYear (a0 : Nat) (h : mH) : Option (Int32 × mH) := f_Realm_endYear_0 a0 h
theorem c_Realm_endYear {sc : Nat × (Nat → Int32)} {a0 : Nat} {h : mH} {r : Int32} {h' : mH} (hf : f_Realm_endYear a0 h = some (r, h')) : MM sc y_Realm_endYear prog_5_method_22_code 2 (some .int) 3 67 [.ref a0] h (some (.int r)) h' :=
  mm_of_G si_pn_Realm (Nat.le_of_ble_eq_true rfl) (t_Realm_endYear_0 _ _ _ _ hf)
/-! Q year ()I -/
set_option maxRecDepth 100000 in
theorem dd_Q_year_0 : (decode prog_1_method_19_code 0 = .ok (.aload_n 0, 1)) ∧ (decode prog_1_method_19_code 1 = .ok (.getfield 19, 3)) ∧ (decode prog_1_method_19_code 4 = .ok (.getfield 97, 3)) ∧ (decode prog_1_method_19_code 7 = .ok (.sipush 999, 3)) ∧ (decode prog_1_method_19_code 10 = .ok (.if_icmp .lt 6, 3)) ∧ (decode prog_1_method_19_code 13 = .ok (.bipush (-3), 2)) ∧ (decode prog_1_method_19_code 15 = .ok (.ireturn, 1)) ∧ (decode prog_1_method_19_code 16 = .ok (.aload_n 0, 1)) ∧ (decode prog_1_method_19_code 17 = .ok (.getfield 19, 3)) ∧ (decode prog_1_method_19_code 20 = .ok (.invokevirtual 188, 3)) ∧ (decode prog_1_method_19_code 23 = .ok (.ireturn, 1)) := by
  have h : List.drop 0 prog_1_method_19_code.data.toList = 0x2a :: _ := rfl
  refine ⟨zq_k_n 42 h rfl (zq_o_42 _), ?_⟩
  replace h := zq_nx1 (q := 1) h rfl
  refine ⟨zq_k_u2 180 (fun z => .getfield z) 19 h rfl (zq_o_180 _) (by decide +kernel), ?_⟩
  replace h := zq_nx3 (q := 4) h rfl
  refine ⟨zq_k_u2 180 (fun z => .getfield z) 97 h rfl (zq_o_180 _) (by decide +kernel), ?_⟩
  replace h := zq_nx3 (q := 7) h rfl
  refine ⟨zq_k_s2 17 (fun z => .sipush z) 999 h rfl (zq_o_17 _) (by decide +kernel), ?_⟩
  replace h := zq_nx3 (q := 10) h rfl
  refine ⟨zq_k_s2 161 (fun z => .if_icmp .lt z) 6 h rfl (zq_o_161 _) (by decide +kernel), ?_⟩
  replace h := zq_nx3 (q := 13) h rfl
  refine ⟨zq_k_s1 16 (fun z => .bipush z) (-3) h rfl (zq_o_16 _) (by decide +kernel), ?_⟩
  replace h := zq_nx2 (q := 15) h rfl
  refine ⟨zq_k_n 172 h rfl (zq_o_172 _), ?_⟩
  replace h := zq_nx1 (q := 16) h rfl
  refine ⟨zq_k_n 42 h rfl (zq_o_42 _), ?_⟩
  replace h := zq_nx1 (q := 17) h rfl
  refine ⟨zq_k_u2 180 (fun z => .getfield z) 19 h rfl (zq_o_180 _) (by decide +kernel), ?_⟩
  replace h := zq_nx3 (q := 20) h rfl
  refine ⟨zq_k_u2 182 (fun z => .invokevirtual z) 188 h rfl (zq_o_182 _) (by decide +kernel), ?_⟩
  replace h := zq_nx3 (q := 23) h rfl
  exact zq_k_n 172 h rfl (zq_o_172 _)
def f_Q_year_0  (a0 : Nat) (h : mH) : Option (Int32 × mH) :=
  bd1 (gR h a0 0 1) fun x1 =>
  bd1 (gI h x1 4 2) fun x3 =>
  if x3 < (999 : Int32) then
    bd1 (gR h a0 0 1) fun x5 =>
    bd1 (kC h x5 4) fun _ =>
    bd2 (f_Realm_endYear x5 h) fun x11 h9 =>
    some (x11, h9)
  else
    some (((-3) : Int32), h)
set_option maxRecDepth 20000 in
theorem t_Q_year_0 {sc : Nat × (Nat → Int32)}  (a0 : Nat) (h : mH) (r : Int32) (h' : mH) (hf : f_Q_year_0  a0 h = some (r, h')) : G sc y_Q_year prog_1_method_19_code 1 (some .int) 4 88 0 [(0, .ref a0)] [] h (some (.int r)) h' := by
  unfold f_Q_year_0 at hf
  refine g_aload_n (pc := 0) 0 dd_Q_year_0.1 rfl rfl ?_
  obtain ⟨x1, e2, hf⟩ := bd1_e hf
  refine g_get (pc := 1) (ci := 0) (kk := 1) dd_Q_year_0.2.1 rfl in_Q (by decide) wd_297 (gR_spec e2) ?_
  obtain ⟨x3, e4, hf⟩ := bd1_e hf
  refine g_get (pc := 4) (ci := 4) (kk := 2) dd_Q_year_0.2.2.1 rfl in_Realm (by decide) wd_104 (gI_spec e4) ?_
  refine g_sipush (pc := 7) (999 : Int32) dd_Q_year_0.2.2.2.1 (by decide) ?_
  refine g_icmplt (pc := 10) 16 dd_Q_year_0.2.2.2.2.1 (by decide) (fun c12 => ?_) (fun c12 => ?_)
  · replace hf := (if_pos c12).symm.trans hf
    refine g_aload_n (pc := 16) 0 dd_Q_year_0.2.2.2.2.2.2.2.1 rfl rfl ?_
    obtain ⟨x5, e6, hf⟩ := bd1_e hf
    refine g_get (pc := 17) (ci := 0) (kk := 1) dd_Q_year_0.2.2.2.2.2.2.2.2.1 rfl in_Q (by decide) wd_297 (gR_spec e6) ?_
    obtain ⟨u8, e7, hf⟩ := bd1_e hf
    obtain ⟨x11, h9, e10, hf⟩ := bd2_e hf
    refine g_callV (pc := 20) (ci := 4) [] (site_of si_Realm_endYear (by decide) (by decide)) wd_638 wd_639 wd_640 dd_Q_year_0.2.2.2.2.2.2.2.2.2.1 rfl e7 (Nat.le_of_ble_eq_true rfl) (fun z => absurd z si_na_Realm_endYear) (fun z => absurd z si_na_Realm_endYear) (fun z => absurd z si_na_Realm_endYear) (c_Realm_endYear e10) rfl ?_
    refine g_st [.int x11] rfl ?_
    obtain ⟨rfl, rfl⟩ := ret2 hf
    exact g_iret (pc := 23) rfl dd_Q_year_0.2.2.2.2.2.2.2.2.2.2
  · replace hf := (if_neg c12).symm.trans hf
    refine g_bipush (pc := 13) ((-3) : Int32) dd_Q_year_0.2.2.2.2.2.1 (by decide) ?_
    obtain ⟨rfl, rfl⟩ := ret2 hf
    exact g_iret (pc := 15) rfl dd_Q_year_0.2.2.2.2.2.2.1
def f_Q_year (a0 : Nat) (h : mH) : Option (Int32 × mH) := f_Q_year_0 a0 h
theorem c_Q_year {sc : Nat × (Nat → Int32)} {a0 : Nat} {h : mH} {r : Int32} {h' : mH} (hf : f_Q_year a0 h = some (r, h')) : MM sc y_Q_year prog_1_method_19_code 1 (some .int) 4 88 [.ref a0] h (some (.int r)) h' :=
  mm_of_G si_pn_Q (Nat.le_of_ble_eq_true rfl) (t_Q_year_0 _ _ _ _ hf)
/-! Q falls ()I -/
set_option maxRecDepth 100000 in
theorem dd_Q_falls_0 : (decode prog_1_method_20_code 0 = .ok (.aload_n 0, 1)) ∧ (decode prog_1_method_20_code 1 = .ok (.getfield 19, 3)) ∧ (decode prog_1_method_20_code 4 = .ok (.invokevirtual 192, 3)) ∧ (decode prog_1_method_20_code 7 = .ok (.ireturn, 1)) := by
  have h : List.drop 0 prog_1_method_20_code.data.toList = 0x2a :: _ := rfl
  refine ⟨zq_k_n 42 h rfl (zq_o_42 _), ?_⟩
  replace h := zq_nx1 (q := 1) h rfl
  refine ⟨zq_k_u2 180 (fun z => .getfield z) 19 h rfl (zq_o_180 _) (by decide +kernel), ?_⟩
  replace h := zq_nx3 (q := 4) h rfl
  refine ⟨zq_k_u2 182 (fun z => .invokevirtual z) 192 h rfl (zq_o_182 _) (by decide +kernel), ?_⟩
  replace h := zq_nx3 (q := 7) h rfl
  exact zq_k_n 172 h rfl (zq_o_172 _)
def f_Q_falls_0  (a0 : Nat) (h : mH) : Option (Int32 × mH) :=
  bd1 (gR h a0 0 1) fun x1 =>
  bd1 (kC h x1 4) fun _ =>
  bd2 (f_Realm_lapsing x1 h) fun x7 h5 =>
  some (x7, h5)
set_option maxRecDepth 20000 in
theorem t_Q_falls_0 {sc : Nat × (Nat → Int32)}  (a0 : Nat) (h : mH) (r : Int32) (h' : mH) (hf : f_Q_falls_0  a0 h = some (r, h')) : G sc y_Q_falls prog_1_method_20_code 1 (some .int) 3 67 0 [(0, .ref a0)] [] h (some (.int r)) h' := by
  unfold f_Q_falls_0 at hf
  refine g_aload_n (pc := 0) 0 dd_Q_falls_0.1 rfl rfl ?_
  obtain ⟨x1, e2, hf⟩ := bd1_e hf
  refine g_get (pc := 1) (ci := 0) (kk := 1) dd_Q_falls_0.2.1 rfl in_Q (by decide) wd_297 (gR_spec e2) ?_
  obtain ⟨u4, e3, hf⟩ := bd1_e hf
  obtain ⟨x7, h5, e6, hf⟩ := bd2_e hf
  refine g_callV (pc := 4) (ci := 4) [] (site_of si_Realm_lapsing (by decide) (by decide)) wd_652 wd_643 wd_644 dd_Q_falls_0.2.2.1 rfl e3 (Nat.le_of_ble_eq_true rfl) (fun z => absurd z si_na_Realm_lapsing) (fun z => absurd z si_na_Realm_lapsing) (fun z => absurd z si_na_Realm_lapsing) (c_Realm_lapsing e6) rfl ?_
  refine g_st [.int x7] rfl ?_
  obtain ⟨rfl, rfl⟩ := ret2 hf
  exact g_iret (pc := 7) rfl dd_Q_falls_0.2.2.2
def f_Q_falls (a0 : Nat) (h : mH) : Option (Int32 × mH) := f_Q_falls_0 a0 h
theorem c_Q_falls {sc : Nat × (Nat → Int32)} {a0 : Nat} {h : mH} {r : Int32} {h' : mH} (hf : f_Q_falls a0 h = some (r, h')) : MM sc y_Q_falls prog_1_method_20_code 1 (some .int) 3 67 [.ref a0] h (some (.int r)) h' :=
  mm_of_G si_pn_Q (Nat.le_of_ble_eq_true rfl) (t_Q_falls_0 _ _ _ _ hf)
/-! Q most (I)I -/
set_option maxRecDepth 100000 in
theorem dd_Q_most_0 : (decode prog_1_method_21_code 0 = .ok (.iload_n 1, 1)) ∧ (decode prog_1_method_21_code 1 = .ok (.iconst 0, 1)) ∧ (decode prog_1_method_21_code 2 = .ok (.iconst 1, 1)) ∧ (decode prog_1_method_21_code 3 = .ok (.invokestatic 62, 3)) ∧ (decode prog_1_method_21_code 6 = .ok (.ifCond .ne 5, 3)) ∧ (decode prog_1_method_21_code 9 = .ok (.iconst (-1), 1)) ∧ (decode prog_1_method_21_code 10 = .ok (.ireturn, 1)) ∧ (decode prog_1_method_21_code 11 = .ok (.bipush (-4), 2)) ∧ (decode prog_1_method_21_code 13 = .ok (.istore_n 2, 1)) ∧ (decode prog_1_method_21_code 14 = .ok (.iconst 0, 1)) ∧ (decode prog_1_method_21_code 15 = .ok (.istore_n 3, 1)) ∧ (decode prog_1_method_21_code 16 = .ok (.iconst 0, 1)) ∧ (decode prog_1_method_21_code 17 = .ok (.istore 4, 2)) ∧ (decode prog_1_method_21_code 19 = .ok (.iload 4, 2)) ∧ (decode prog_1_method_21_code 21 = .ok (.aload_n 0, 1)) ∧ (decode prog_1_method_21_code 22 = .ok (.getfield 19, 3)) ∧ (decode prog_1_method_21_code 25 = .ok (.getfield 91, 3)) ∧ (decode prog_1_method_21_code 28 = .ok (.if_icmp .ge 58, 3)) ∧ (decode prog_1_method_21_code 31 = .ok (.aload_n 0, 1)) ∧ (decode prog_1_method_21_code 32 = .ok (.getfield 19, 3)) ∧ (decode prog_1_method_21_code 35 = .ok (.iload 4, 2)) ∧ (decode prog_1_method_21_code 37 = .ok (.invokevirtual 132, 3)) ∧ (decode prog_1_method_21_code 40 = .ok (.aload_n 0, 1)) ∧ (decode prog_1_method_21_code 41 = .ok (.getfield 19, 3)) := by
  have h : List.drop 0 prog_1_method_21_code.data.toList = 0x1b :: _ := rfl
  refine ⟨zq_k_n 27 h rfl (zq_o_27 _), ?_⟩
  replace h := zq_nx1 (q := 1) h rfl
  refine ⟨zq_k_n 3 h rfl (zq_o_3 _), ?_⟩
  replace h := zq_nx1 (q := 2) h rfl
  refine ⟨zq_k_n 4 h rfl (zq_o_4 _), ?_⟩
  replace h := zq_nx1 (q := 3) h rfl
  refine ⟨zq_k_u2 184 (fun z => .invokestatic z) 62 h rfl (zq_o_184 _) (by decide +kernel), ?_⟩
  replace h := zq_nx3 (q := 6) h rfl
  refine ⟨zq_k_s2 154 (fun z => .ifCond .ne z) 5 h rfl (zq_o_154 _) (by decide +kernel), ?_⟩
  replace h := zq_nx3 (q := 9) h rfl
  refine ⟨zq_k_n 2 h rfl (zq_o_2 _), ?_⟩
  replace h := zq_nx1 (q := 10) h rfl
  refine ⟨zq_k_n 172 h rfl (zq_o_172 _), ?_⟩
  replace h := zq_nx1 (q := 11) h rfl
  refine ⟨zq_k_s1 16 (fun z => .bipush z) (-4) h rfl (zq_o_16 _) (by decide +kernel), ?_⟩
  replace h := zq_nx2 (q := 13) h rfl
  refine ⟨zq_k_n 61 h rfl (zq_o_61 _), ?_⟩
  replace h := zq_nx1 (q := 14) h rfl
  refine ⟨zq_k_n 3 h rfl (zq_o_3 _), ?_⟩
  replace h := zq_nx1 (q := 15) h rfl
  refine ⟨zq_k_n 62 h rfl (zq_o_62 _), ?_⟩
  replace h := zq_nx1 (q := 16) h rfl
  refine ⟨zq_k_n 3 h rfl (zq_o_3 _), ?_⟩
  replace h := zq_nx1 (q := 17) h rfl
  refine ⟨zq_k_u1 54 (fun z => .istore z) 4 h rfl (zq_o_54 _) (by decide +kernel), ?_⟩
  replace h := zq_nx2 (q := 19) h rfl
  refine ⟨zq_k_u1 21 (fun z => .iload z) 4 h rfl (zq_o_21 _) (by decide +kernel), ?_⟩
  replace h := zq_nx2 (q := 21) h rfl
  refine ⟨zq_k_n 42 h rfl (zq_o_42 _), ?_⟩
  replace h := zq_nx1 (q := 22) h rfl
  refine ⟨zq_k_u2 180 (fun z => .getfield z) 19 h rfl (zq_o_180 _) (by decide +kernel), ?_⟩
  replace h := zq_nx3 (q := 25) h rfl
  refine ⟨zq_k_u2 180 (fun z => .getfield z) 91 h rfl (zq_o_180 _) (by decide +kernel), ?_⟩
  replace h := zq_nx3 (q := 28) h rfl
  refine ⟨zq_k_s2 162 (fun z => .if_icmp .ge z) 58 h rfl (zq_o_162 _) (by decide +kernel), ?_⟩
  replace h := zq_nx3 (q := 31) h rfl
  refine ⟨zq_k_n 42 h rfl (zq_o_42 _), ?_⟩
  replace h := zq_nx1 (q := 32) h rfl
  refine ⟨zq_k_u2 180 (fun z => .getfield z) 19 h rfl (zq_o_180 _) (by decide +kernel), ?_⟩
  replace h := zq_nx3 (q := 35) h rfl
  refine ⟨zq_k_u1 21 (fun z => .iload z) 4 h rfl (zq_o_21 _) (by decide +kernel), ?_⟩
  replace h := zq_nx2 (q := 37) h rfl
  refine ⟨zq_k_u2 182 (fun z => .invokevirtual z) 132 h rfl (zq_o_182 _) (by decide +kernel), ?_⟩
  replace h := zq_nx3 (q := 40) h rfl
  refine ⟨zq_k_n 42 h rfl (zq_o_42 _), ?_⟩
  replace h := zq_nx1 (q := 41) h rfl
  exact zq_k_u2 180 (fun z => .getfield z) 19 h rfl (zq_o_180 _) (by decide +kernel)
set_option maxRecDepth 100000 in
theorem dd_Q_most_44 : (decode prog_1_method_21_code 44 = .ok (.getfield 103, 3)) ∧ (decode prog_1_method_21_code 47 = .ok (.iand, 1)) ∧ (decode prog_1_method_21_code 48 = .ok (.invokestatic 180, 3)) ∧ (decode prog_1_method_21_code 51 = .ok (.istore 5, 2)) ∧ (decode prog_1_method_21_code 53 = .ok (.aload_n 0, 1)) ∧ (decode prog_1_method_21_code 54 = .ok (.getfield 19, 3)) ∧ (decode prog_1_method_21_code 57 = .ok (.getfield 103, 3)) ∧ (decode prog_1_method_21_code 60 = .ok (.iload 4, 2)) ∧ (decode prog_1_method_21_code 62 = .ok (.invokestatic 177, 3)) ∧ (decode prog_1_method_21_code 65 = .ok (.ifCond .eq 15, 3)) ∧ (decode prog_1_method_21_code 68 = .ok (.iload 5, 2)) ∧ (decode prog_1_method_21_code 70 = .ok (.iload_n 3, 1)) ∧ (decode prog_1_method_21_code 71 = .ok (.if_icmp .le 9, 3)) ∧ (decode prog_1_method_21_code 74 = .ok (.iload 4, 2)) ∧ (decode prog_1_method_21_code 76 = .ok (.istore_n 2, 1)) ∧ (decode prog_1_method_21_code 77 = .ok (.iload 5, 2)) ∧ (decode prog_1_method_21_code 79 = .ok (.istore_n 3, 1)) ∧ (decode prog_1_method_21_code 80 = .ok (.iinc 4 1, 3)) ∧ (decode prog_1_method_21_code 83 = .ok (.goto (-64), 3)) ∧ (decode prog_1_method_21_code 86 = .ok (.iload_n 1, 1)) ∧ (decode prog_1_method_21_code 87 = .ok (.ifCond .eq 9, 3)) ∧ (decode prog_1_method_21_code 90 = .ok (.iload_n 2, 1)) ∧ (decode prog_1_method_21_code 91 = .ok (.bipush (-4), 2)) ∧ (decode prog_1_method_21_code 93 = .ok (.if_icmp .ne 7, 3)) := by
  have h : List.drop 44 prog_1_method_21_code.data.toList = 0xb4 :: _ := rfl
  refine ⟨zq_k_u2 180 (fun z => .getfield z) 103 h rfl (zq_o_180 _) (by decide +kernel), ?_⟩
  replace h := zq_nx3 (q := 47) h rfl
  refine ⟨zq_k_n 126 h rfl (zq_o_126 _), ?_⟩
  replace h := zq_nx1 (q := 48) h rfl
  refine ⟨zq_k_u2 184 (fun z => .invokestatic z) 180 h rfl (zq_o_184 _) (by decide +kernel), ?_⟩
  replace h := zq_nx3 (q := 51) h rfl
  refine ⟨zq_k_u1 54 (fun z => .istore z) 5 h rfl (zq_o_54 _) (by decide +kernel), ?_⟩
  replace h := zq_nx2 (q := 53) h rfl
  refine ⟨zq_k_n 42 h rfl (zq_o_42 _), ?_⟩
  replace h := zq_nx1 (q := 54) h rfl
  refine ⟨zq_k_u2 180 (fun z => .getfield z) 19 h rfl (zq_o_180 _) (by decide +kernel), ?_⟩
  replace h := zq_nx3 (q := 57) h rfl
  refine ⟨zq_k_u2 180 (fun z => .getfield z) 103 h rfl (zq_o_180 _) (by decide +kernel), ?_⟩
  replace h := zq_nx3 (q := 60) h rfl
  refine ⟨zq_k_u1 21 (fun z => .iload z) 4 h rfl (zq_o_21 _) (by decide +kernel), ?_⟩
  replace h := zq_nx2 (q := 62) h rfl
  refine ⟨zq_k_u2 184 (fun z => .invokestatic z) 177 h rfl (zq_o_184 _) (by decide +kernel), ?_⟩
  replace h := zq_nx3 (q := 65) h rfl
  refine ⟨zq_k_s2 153 (fun z => .ifCond .eq z) 15 h rfl (zq_o_153 _) (by decide +kernel), ?_⟩
  replace h := zq_nx3 (q := 68) h rfl
  refine ⟨zq_k_u1 21 (fun z => .iload z) 5 h rfl (zq_o_21 _) (by decide +kernel), ?_⟩
  replace h := zq_nx2 (q := 70) h rfl
  refine ⟨zq_k_n 29 h rfl (zq_o_29 _), ?_⟩
  replace h := zq_nx1 (q := 71) h rfl
  refine ⟨zq_k_s2 164 (fun z => .if_icmp .le z) 9 h rfl (zq_o_164 _) (by decide +kernel), ?_⟩
  replace h := zq_nx3 (q := 74) h rfl
  refine ⟨zq_k_u1 21 (fun z => .iload z) 4 h rfl (zq_o_21 _) (by decide +kernel), ?_⟩
  replace h := zq_nx2 (q := 76) h rfl
  refine ⟨zq_k_n 61 h rfl (zq_o_61 _), ?_⟩
  replace h := zq_nx1 (q := 77) h rfl
  refine ⟨zq_k_u1 21 (fun z => .iload z) 5 h rfl (zq_o_21 _) (by decide +kernel), ?_⟩
  replace h := zq_nx2 (q := 79) h rfl
  refine ⟨zq_k_n 62 h rfl (zq_o_62 _), ?_⟩
  replace h := zq_nx1 (q := 80) h rfl
  refine ⟨zq_k_iinc 4 1 h rfl (zq_o_132 _) (by decide +kernel) (by decide +kernel), ?_⟩
  replace h := zq_nx3 (q := 83) h rfl
  refine ⟨zq_k_s2 167 (fun z => .goto z) (-64) h rfl (zq_o_167 _) (by decide +kernel), ?_⟩
  replace h := zq_nx3 (q := 86) h rfl
  refine ⟨zq_k_n 27 h rfl (zq_o_27 _), ?_⟩
  replace h := zq_nx1 (q := 87) h rfl
  refine ⟨zq_k_s2 153 (fun z => .ifCond .eq z) 9 h rfl (zq_o_153 _) (by decide +kernel), ?_⟩
  replace h := zq_nx3 (q := 90) h rfl
  refine ⟨zq_k_n 28 h rfl (zq_o_28 _), ?_⟩
  replace h := zq_nx1 (q := 91) h rfl
  refine ⟨zq_k_s1 16 (fun z => .bipush z) (-4) h rfl (zq_o_16 _) (by decide +kernel), ?_⟩
  replace h := zq_nx2 (q := 93) h rfl
  exact zq_k_s2 160 (fun z => .if_icmp .ne z) 7 h rfl (zq_o_160 _) (by decide +kernel)
set_option maxRecDepth 100000 in
theorem dd_Q_most_96 : (decode prog_1_method_21_code 96 = .ok (.iload_n 2, 1)) ∧ (decode prog_1_method_21_code 97 = .ok (.goto 4, 3)) ∧ (decode prog_1_method_21_code 100 = .ok (.iload_n 3, 1)) ∧ (decode prog_1_method_21_code 101 = .ok (.ireturn, 1)) := by
  have h : List.drop 96 prog_1_method_21_code.data.toList = 0x1c :: _ := rfl
  refine ⟨zq_k_n 28 h rfl (zq_o_28 _), ?_⟩
  replace h := zq_nx1 (q := 97) h rfl
  refine ⟨zq_k_s2 167 (fun z => .goto z) 4 h rfl (zq_o_167 _) (by decide +kernel), ?_⟩
  replace h := zq_nx3 (q := 100) h rfl
  refine ⟨zq_k_n 29 h rfl (zq_o_29 _), ?_⟩
  replace h := zq_nx1 (q := 101) h rfl
  exact zq_k_n 172 h rfl (zq_o_172 _)
def f_Q_most_96  (b2 : Int32) (h : mH) : Option (Int32 × mH) :=
  some (b2, h)
set_option maxRecDepth 20000 in
theorem t_Q_most_96 {sc : Nat × (Nat → Int32)}  (b2 : Int32) (h : mH) (r : Int32) (h' : mH) (hf : f_Q_most_96  b2 h = some (r, h')) : G sc y_Q_most prog_1_method_21_code 6 (some .int) 2 45 96 [(2, .int b2)] [] h (some (.int r)) h' := by
  unfold f_Q_most_96 at hf
  refine g_iload_n (pc := 96) 0 dd_Q_most_96.1 rfl rfl ?_
  refine g_goto (pc := 97) 101 dd_Q_most_96.2.1 (by decide) ?_
  obtain ⟨rfl, rfl⟩ := ret2 hf
  exact g_iret (pc := 101) rfl dd_Q_most_96.2.2.2
def f_Q_most_80 (rec19 : Nat → Int32 → Int32 → Int32 → Int32 → mH → Option (Int32 × mH)) (b0 : Nat) (b1 : Int32) (b2 : Int32) (b3 : Int32) (b4 : Int32) (h : mH) : Option (Int32 × mH) :=
  rec19 b0 b1 b2 b3 (b4 + (1 : Int32)) h
set_option maxRecDepth 20000 in
theorem t_Q_most_80 {sc : Nat × (Nat → Int32)} (rec19 : Nat → Int32 → Int32 → Int32 → Int32 → mH → Option (Int32 × mH)) (hrec19 : ∀ (b0 : Nat) (b1 : Int32) (b2 : Int32) (b3 : Int32) (b4 : Int32) (h : mH) (r : Int32) (h' : mH), rec19 b0 b1 b2 b3 b4 h = some (r, h') → G sc y_Q_most prog_1_method_21_code 6 (some .int) 2 45 19 [(0, .ref b0), (1, .int b1), (2, .int b2), (3, .int b3), (4, .int b4)] [] h (some (.int r)) h') (b0 : Nat) (b1 : Int32) (b2 : Int32) (b3 : Int32) (b4 : Int32) (h : mH) (r : Int32) (h' : mH) (hf : f_Q_most_80 rec19 b0 b1 b2 b3 b4 h = some (r, h')) : G sc y_Q_most prog_1_method_21_code 6 (some .int) 2 45 80 [(0, .ref b0), (1, .int b1), (2, .int b2), (3, .int b3), (4, .int b4)] [] h (some (.int r)) h' := by
  unfold f_Q_most_80 at hf
  refine g_iinc (pc := 80) 4 (b4 + (1 : Int32)) [(4, .int (b4 + (1 : Int32))), (0, .ref b0), (1, .int b1), (2, .int b2), (3, .int b3)] dd_Q_most_44.2.2.2.2.2.2.2.2.2.2.2.2.2.2.2.2.2.1 rfl rfl (Nat.le_of_ble_eq_true rfl) rfl ?_
  refine g_goto (pc := 83) 19 dd_Q_most_44.2.2.2.2.2.2.2.2.2.2.2.2.2.2.2.2.2.2.1 (by decide) ?_
  refine g_lv [1, 2, 3, 4, 0] rfl ?_
  exact hrec19 _ _ _ _ _ _ _ _  hf
def f_Q_most_19b (rec19 : Nat → Int32 → Int32 → Int32 → Int32 → mH → Option (Int32 × mH)) (b0 : Nat) (b1 : Int32) (b2 : Int32) (b3 : Int32) (b4 : Int32) (h : mH) : Option (Int32 × mH) :=
  bd1 (gR h b0 0 1) fun x5 =>
  bd1 (gI h x5 4 0) fun x7 =>
  if x7 ≤ b4 then
    if b1 = 0 then
      f_Q_most_96  b2 h
    else
      if b2 = ((-4) : Int32) then
        f_Q_most_96  b2 h
      else
        some (b3, h)
  else
    bd1 (gR h b0 0 1) fun x11 =>
    bd1 (kC h x11 4) fun _ =>
    bd2 (f_Realm_chainOf x11 b4 h) fun x17 h15 =>
    bd1 (gR h15 b0 0 1) fun x18 =>
    bd1 (gI h15 x18 4 4) fun x20 =>
    bd2 (f_Integer_bitCount (x17 &&& x20) h15) fun x24 h22 =>
    bd1 (gR h22 b0 0 1) fun x25 =>
    bd1 (gI h22 x25 4 4) fun x27 =>
    bd2 (f_Q_hasBit x27 b4 h22) fun x31 h29 =>
    if x31 = 0 then
      f_Q_most_80 rec19 b0 b1 b2 b3 b4 h29
    else
      if x24 ≤ b3 then
        f_Q_most_80 rec19 b0 b1 b2 b3 b4 h29
      else
        f_Q_most_80 rec19 b0 b1 b4 x24 b4 h29
set_option maxRecDepth 20000 in
theorem t_Q_most_19b {sc : Nat × (Nat → Int32)} (rec19 : Nat → Int32 → Int32 → Int32 → Int32 → mH → Option (Int32 × mH)) (hrec19 : ∀ (b0 : Nat) (b1 : Int32) (b2 : Int32) (b3 : Int32) (b4 : Int32) (h : mH) (r : Int32) (h' : mH), rec19 b0 b1 b2 b3 b4 h = some (r, h') → G sc y_Q_most prog_1_method_21_code 6 (some .int) 2 45 19 [(0, .ref b0), (1, .int b1), (2, .int b2), (3, .int b3), (4, .int b4)] [] h (some (.int r)) h') (b0 : Nat) (b1 : Int32) (b2 : Int32) (b3 : Int32) (b4 : Int32) (h : mH) (r : Int32) (h' : mH) (hf : f_Q_most_19b rec19 b0 b1 b2 b3 b4 h = some (r, h')) : G sc y_Q_most prog_1_method_21_code 6 (some .int) 2 45 19 [(0, .ref b0), (1, .int b1), (2, .int b2), (3, .int b3), (4, .int b4)] [] h (some (.int r)) h' := by
  unfold f_Q_most_19b at hf
  refine g_iload (pc := 19) 4 dd_Q_most_0.2.2.2.2.2.2.2.2.2.2.2.2.2.1 rfl ?_
  refine g_aload_n (pc := 21) 0 dd_Q_most_0.2.2.2.2.2.2.2.2.2.2.2.2.2.2.1 rfl rfl ?_
  obtain ⟨x5, e6, hf⟩ := bd1_e hf
  refine g_get (pc := 22) (ci := 0) (kk := 1) dd_Q_most_0.2.2.2.2.2.2.2.2.2.2.2.2.2.2.2.1 rfl in_Q (by decide) wd_297 (gR_spec e6) ?_
  obtain ⟨x7, e8, hf⟩ := bd1_e hf
  refine g_get (pc := 25) (ci := 4) (kk := 0) dd_Q_most_0.2.2.2.2.2.2.2.2.2.2.2.2.2.2.2.2.1 rfl in_Realm (by decide) wd_97 (gI_spec e8) ?_
  refine g_icmpge (pc := 28) 86 dd_Q_most_0.2.2.2.2.2.2.2.2.2.2.2.2.2.2.2.2.2.1 (by decide) (fun c34 => ?_) (fun c34 => ?_)
  · replace hf := (if_pos c34).symm.trans hf
    refine g_iload_n (pc := 86) 1 dd_Q_most_44.2.2.2.2.2.2.2.2.2.2.2.2.2.2.2.2.2.2.2.1 rfl rfl ?_
    refine g_ifeq (pc := 87) 96 dd_Q_most_44.2.2.2.2.2.2.2.2.2.2.2.2.2.2.2.2.2.2.2.2.1 (by decide) (fun c10 => ?_) (fun c10 => ?_)
    · replace hf := (if_pos c10).symm.trans hf
      refine g_lv [2] rfl ?_
      exact t_Q_most_96  _ _ _ _  hf
    · replace hf := (if_neg c10).symm.trans hf
      refine g_iload_n (pc := 90) 2 dd_Q_most_44.2.2.2.2.2.2.2.2.2.2.2.2.2.2.2.2.2.2.2.2.2.1 rfl rfl ?_
      refine g_bipush (pc := 91) ((-4) : Int32) dd_Q_most_44.2.2.2.2.2.2.2.2.2.2.2.2.2.2.2.2.2.2.2.2.2.2.1 (by decide) ?_
      refine g_icmpne (pc := 93) 100 dd_Q_most_44.2.2.2.2.2.2.2.2.2.2.2.2.2.2.2.2.2.2.2.2.2.2.2 (by decide) (fun c9 => ?_) (fun c9 => ?_)
      · replace hf := (if_neg c9).symm.trans hf
        refine g_iload_n (pc := 100) 3 dd_Q_most_96.2.2.1 rfl rfl ?_
        obtain ⟨rfl, rfl⟩ := ret2 hf
        exact g_iret (pc := 101) rfl dd_Q_most_96.2.2.2
      · replace hf := (if_pos c9).symm.trans hf
        refine g_lv [2] rfl ?_
        exact t_Q_most_96  _ _ _ _  hf
  · replace hf := (if_neg c34).symm.trans hf
    refine g_aload_n (pc := 31) 0 dd_Q_most_0.2.2.2.2.2.2.2.2.2.2.2.2.2.2.2.2.2.2.1 rfl rfl ?_
    obtain ⟨x11, e12, hf⟩ := bd1_e hf
    refine g_get (pc := 32) (ci := 0) (kk := 1) dd_Q_most_0.2.2.2.2.2.2.2.2.2.2.2.2.2.2.2.2.2.2.2.1 rfl in_Q (by decide) wd_297 (gR_spec e12) ?_
    refine g_iload (pc := 35) 4 dd_Q_most_0.2.2.2.2.2.2.2.2.2.2.2.2.2.2.2.2.2.2.2.2.1 rfl ?_
    obtain ⟨u14, e13, hf⟩ := bd1_e hf
    obtain ⟨x17, h15, e16, hf⟩ := bd2_e hf
    refine g_callV (pc := 37) (ci := 4) [.int b4] (site_of si_Realm_chainOf (by decide) (by decide)) wd_532 wd_533 wd_534 dd_Q_most_0.2.2.2.2.2.2.2.2.2.2.2.2.2.2.2.2.2.2.2.2.2.1 rfl e13 (Nat.le_of_ble_eq_true rfl) (fun z => absurd z si_na_Realm_chainOf) (fun z => absurd z si_na_Realm_chainOf) (fun z => absurd z si_na_Realm_chainOf) (c_Realm_chainOf e16) rfl ?_
    refine g_st [.int x17] rfl ?_
    refine g_aload_n (pc := 40) 0 dd_Q_most_0.2.2.2.2.2.2.2.2.2.2.2.2.2.2.2.2.2.2.2.2.2.2.1 rfl rfl ?_
    obtain ⟨x18, e19, hf⟩ := bd1_e hf
    refine g_get (pc := 41) (ci := 0) (kk := 1) dd_Q_most_0.2.2.2.2.2.2.2.2.2.2.2.2.2.2.2.2.2.2.2.2.2.2.2 rfl in_Q (by decide) wd_297 (gR_spec e19) ?_
    obtain ⟨x20, e21, hf⟩ := bd1_e hf
    refine g_get (pc := 44) (ci := 4) (kk := 4) dd_Q_most_44.1 rfl in_Realm (by decide) wd_109 (gI_spec e21) ?_
    refine g_iand (pc := 47) dd_Q_most_44.2.1 ?_
    obtain ⟨x24, h22, e23, hf⟩ := bd2_e hf
    refine g_callS (pc := 48) [.int (x17 &&& x20)] (site_of si_Integer_bitCount (by decide) (by decide)) wd_615 wd_616 dd_Q_most_44.2.2.1 (Nat.le_of_ble_eq_true rfl) (fun z => absurd z si_na_Integer_bitCount) (fun z => absurd z si_na_Integer_bitCount) (fun z => absurd z si_na_Integer_bitCount) (c_Integer_bitCount e23) rfl ?_
    refine g_st [.int x24] rfl ?_
    refine g_istore (pc := 51) [(5, .int x24), (0, .ref b0), (1, .int b1), (2, .int b2), (3, .int b3), (4, .int b4)] dd_Q_most_44.2.2.2.1 (Nat.le_of_ble_eq_true rfl) rfl ?_
    refine g_aload_n (pc := 53) 1 dd_Q_most_44.2.2.2.2.1 rfl rfl ?_
    obtain ⟨x25, e26, hf⟩ := bd1_e hf
    refine g_get (pc := 54) (ci := 0) (kk := 1) dd_Q_most_44.2.2.2.2.2.1 rfl in_Q (by decide) wd_297 (gR_spec e26) ?_
    obtain ⟨x27, e28, hf⟩ := bd1_e hf
    refine g_get (pc := 57) (ci := 4) (kk := 4) dd_Q_most_44.2.2.2.2.2.2.1 rfl in_Realm (by decide) wd_109 (gI_spec e28) ?_
    refine g_iload (pc := 60) 5 dd_Q_most_44.2.2.2.2.2.2.2.1 rfl ?_
    obtain ⟨x31, h29, e30, hf⟩ := bd2_e hf
    refine g_callS (pc := 62) [.int x27, .int b4] (site_of si_Q_hasBit (by decide) (by decide)) wd_614 wd_469 dd_Q_most_44.2.2.2.2.2.2.2.2.1 (Nat.le_of_ble_eq_true rfl) (fun z => absurd z si_na_Q_hasBit) (fun z => absurd z si_na_Q_hasBit) (fun z => absurd z si_na_Q_hasBit) (c_Q_hasBit e30) rfl ?_
    refine g_st [.int x31] rfl ?_
    refine g_ifeq (pc := 65) 80 dd_Q_most_44.2.2.2.2.2.2.2.2.2.1 (by decide) (fun c33 => ?_) (fun c33 => ?_)
    · replace hf := (if_pos c33).symm.trans hf
      refine g_lv [1, 2, 3, 4, 5] rfl ?_
      exact t_Q_most_80 rec19 hrec19 _ _ _ _ _ _ _ _  hf
    · replace hf := (if_neg c33).symm.trans hf
      refine g_iload (pc := 68) 0 dd_Q_most_44.2.2.2.2.2.2.2.2.2.2.1 rfl ?_
      refine g_iload_n (pc := 70) 4 dd_Q_most_44.2.2.2.2.2.2.2.2.2.2.2.1 rfl rfl ?_
      refine g_icmple (pc := 71) 80 dd_Q_most_44.2.2.2.2.2.2.2.2.2.2.2.2.1 (by decide) (fun c32 => ?_) (fun c32 => ?_)
      · replace hf := (if_pos c32).symm.trans hf
        refine g_lv [1, 2, 3, 4, 5] rfl ?_
        exact t_Q_most_80 rec19 hrec19 _ _ _ _ _ _ _ _  hf
      · replace hf := (if_neg c32).symm.trans hf
        refine g_iload (pc := 74) 5 dd_Q_most_44.2.2.2.2.2.2.2.2.2.2.2.2.2.1 rfl ?_
        refine g_istore_n (pc := 76) [(2, .int b4), (5, .int x24), (0, .ref b0), (1, .int b1), (3, .int b3), (4, .int b4)] dd_Q_most_44.2.2.2.2.2.2.2.2.2.2.2.2.2.2.1 rfl (Nat.le_of_ble_eq_true rfl) rfl ?_
        refine g_iload (pc := 77) 1 dd_Q_most_44.2.2.2.2.2.2.2.2.2.2.2.2.2.2.2.1 rfl ?_
        refine g_istore_n (pc := 79) [(3, .int x24), (2, .int b4), (5, .int x24), (0, .ref b0), (1, .int b1), (4, .int b4)] dd_Q_most_44.2.2.2.2.2.2.2.2.2.2.2.2.2.2.2.2.1 rfl (Nat.le_of_ble_eq_true rfl) rfl ?_
        refine g_lv [3, 4, 1, 0, 5] rfl ?_
        exact t_Q_most_80 rec19 hrec19 _ _ _ _ _ _ _ _  hf
def f_Q_most_19  : Nat → Nat → Int32 → Int32 → Int32 → Int32 → mH → Option (Int32 × mH)
  | 0 => fun _ _ _ _ _ _ => none
  | n + 1 => f_Q_most_19b  (f_Q_most_19  n)
theorem t_Q_most_19 {sc : Nat × (Nat → Int32)}  : ∀ (n : Nat) (b0 : Nat) (b1 : Int32) (b2 : Int32) (b3 : Int32) (b4 : Int32) (h : mH) (r : Int32) (h' : mH) (hf : f_Q_most_19  n b0 b1 b2 b3 b4 h = some (r, h')), G sc y_Q_most prog_1_method_21_code 6 (some .int) 2 45 19 [(0, .ref b0), (1, .int b1), (2, .int b2), (3, .int b3), (4, .int b4)] [] h (some (.int r)) h'
  | 0, _, _, _, _, _, _, _, _, hf => by cases hf
  | n + 1, _, _, _, _, _, _, _, _, hf => t_Q_most_19b  (f_Q_most_19  n) (t_Q_most_19  n) _ _ _ _ _ _ _ _ hf
def f_Q_most_0  (a0 : Nat) (a1 : Int32) (h : mH) : Option (Int32 × mH) :=
  bd2 (f_Q_isWithin a1 (0 : Int32) (1 : Int32) h) fun x3 h1 =>
  if x3 = 0 then
    some (((-1) : Int32), h1)
  else
    f_Q_most_19  FU a0 a1 ((-4) : Int32) (0 : Int32) (0 : Int32) h1
set_option maxRecDepth 20000 in
theorem t_Q_most_0 {sc : Nat × (Nat → Int32)}  (a0 : Nat) (a1 : Int32) (h : mH) (r : Int32) (h' : mH) (hf : f_Q_most_0  a0 a1 h = some (r, h')) : G sc y_Q_most prog_1_method_21_code 6 (some .int) 2 45 0 [(0, .ref a0), (1, .int a1)] [] h (some (.int r)) h' := by
  unfold f_Q_most_0 at hf
  refine g_iload_n (pc := 0) 1 dd_Q_most_0.1 rfl rfl ?_
  refine g_iconst (pc := 1) (0 : Int32) dd_Q_most_0.2.1 (by decide) ?_
  refine g_iconst (pc := 2) (1 : Int32) dd_Q_most_0.2.2.1 (by decide) ?_
  obtain ⟨x3, h1, e2, hf⟩ := bd2_e hf
  refine g_callS (pc := 3) [.int a1, .int (0 : Int32), .int (1 : Int32)] (site_of si_Q_isWithin (by decide) (by decide)) wd_331 wd_332 dd_Q_most_0.2.2.2.1 (Nat.le_of_ble_eq_true rfl) (fun z => absurd z si_na_Q_isWithin) (fun z => absurd z si_na_Q_isWithin) (fun z => absurd z si_na_Q_isWithin) (c_Q_isWithin e2) rfl ?_
  refine g_st [.int x3] rfl ?_
  refine g_ifne (pc := 6) 11 dd_Q_most_0.2.2.2.2.1 (by decide) (fun c4 => ?_) (fun c4 => ?_)
  · replace hf := (if_neg c4).symm.trans hf
    refine g_bipush (pc := 11) ((-4) : Int32) dd_Q_most_0.2.2.2.2.2.2.2.1 (by decide) ?_
    refine g_istore_n (pc := 13) [(2, .int ((-4) : Int32)), (0, .ref a0), (1, .int a1)] dd_Q_most_0.2.2.2.2.2.2.2.2.1 rfl (Nat.le_of_ble_eq_true rfl) rfl ?_
    refine g_iconst (pc := 14) (0 : Int32) dd_Q_most_0.2.2.2.2.2.2.2.2.2.1 (by decide) ?_
    refine g_istore_n (pc := 15) [(3, .int (0 : Int32)), (2, .int ((-4) : Int32)), (0, .ref a0), (1, .int a1)] dd_Q_most_0.2.2.2.2.2.2.2.2.2.2.1 rfl (Nat.le_of_ble_eq_true rfl) rfl ?_
    refine g_iconst (pc := 16) (0 : Int32) dd_Q_most_0.2.2.2.2.2.2.2.2.2.2.2.1 (by decide) ?_
    refine g_istore (pc := 17) [(4, .int (0 : Int32)), (3, .int (0 : Int32)), (2, .int ((-4) : Int32)), (0, .ref a0), (1, .int a1)] dd_Q_most_0.2.2.2.2.2.2.2.2.2.2.2.2.1 (Nat.le_of_ble_eq_true rfl) rfl ?_
    refine g_lv [3, 4, 2, 1, 0] rfl ?_
    exact t_Q_most_19  FU _ _ _ _ _ _ _ _  hf
  · replace hf := (if_pos c4).symm.trans hf
    refine g_iconst (pc := 9) ((-1) : Int32) dd_Q_most_0.2.2.2.2.2.1 (by decide) ?_
    obtain ⟨rfl, rfl⟩ := ret2 hf
    exact g_iret (pc := 10) rfl dd_Q_most_0.2.2.2.2.2.2.1
def f_Q_most (a0 : Nat) (a1 : Int32) (h : mH) : Option (Int32 × mH) := f_Q_most_0 a0 a1 h
theorem c_Q_most {sc : Nat × (Nat → Int32)} {a0 : Nat} {a1 : Int32} {h : mH} {r : Int32} {h' : mH} (hf : f_Q_most a0 a1 h = some (r, h')) : MM sc y_Q_most prog_1_method_21_code 6 (some .int) 2 45 [.ref a0, .int a1] h (some (.int r)) h' :=
  mm_of_G si_pn_Q (Nat.le_of_ble_eq_true rfl) (t_Q_most_0 _ _ _ _ _ hf)
/-! Planner load (LQuotaLaws$Realm;)V -/
set_option maxRecDepth 100000 in
theorem dd_Planner_load_0 : (decode prog_3_method_2_code 0 = .ok (.aload_n 0, 1)) ∧ (decode prog_3_method_2_code 1 = .ok (.aload_n 1, 1)) ∧ (decode prog_3_method_2_code 2 = .ok (.getfield 33, 3)) ∧ (decode prog_3_method_2_code 5 = .ok (.putfield 39, 3)) ∧ (decode prog_3_method_2_code 8 = .ok (.aload_n 0, 1)) ∧ (decode prog_3_method_2_code 9 = .ok (.getfield 21, 3)) ∧ (decode prog_3_method_2_code 12 = .ok (.iconst 0, 1)) ∧ (decode prog_3_method_2_code 13 = .ok (.invokestatic 40, 3)) ∧ (decode prog_3_method_2_code 16 = .ok (.iconst 0, 1)) ∧ (decode prog_3_method_2_code 17 = .ok (.istore_n 2, 1)) ∧ (decode prog_3_method_2_code 18 = .ok (.iload_n 2, 1)) ∧ (decode prog_3_method_2_code 19 = .ok (.iconst 3, 1)) ∧ (decode prog_3_method_2_code 20 = .ok (.if_icmp .ge 32, 3)) ∧ (decode prog_3_method_2_code 23 = .ok (.aload_n 0, 1)) ∧ (decode prog_3_method_2_code 24 = .ok (.getfield 9, 3)) ∧ (decode prog_3_method_2_code 27 = .ok (.iload_n 2, 1)) ∧ (decode prog_3_method_2_code 28 = .ok (.aload_n 1, 1)) ∧ (decode prog_3_method_2_code 29 = .ok (.iload_n 2, 1)) ∧ (decode prog_3_method_2_code 30 = .ok (.invokevirtual 46, 3)) ∧ (decode prog_3_method_2_code 33 = .ok (.ifCond .eq 11, 3)) ∧ (decode prog_3_method_2_code 36 = .ok (.aload_n 1, 1)) ∧ (decode prog_3_method_2_code 37 = .ok (.iload_n 2, 1)) ∧ (decode prog_3_method_2_code 38 = .ok (.invokevirtual 50, 3)) ∧ (decode prog_3_method_2_code 41 = .ok (.goto 4, 3)) := by
  have h : List.drop 0 prog_3_method_2_code.data.toList = 0x2a :: _ := rfl
  refine ⟨zq_k_n 42 h rfl (zq_o_42 _), ?_⟩
  replace h := zq_nx1 (q := 1) h rfl
  refine ⟨zq_k_n 43 h rfl (zq_o_43 _), ?_⟩
  replace h := zq_nx1 (q := 2) h rfl
  refine ⟨zq_k_u2 180 (fun z => .getfield z) 33 h rfl (zq_o_180 _) (by decide +kernel), ?_⟩
  replace h := zq_nx3 (q := 5) h rfl
  refine ⟨zq_k_u2 181 (fun z => .putfield z) 39 h rfl (zq_o_181 _) (by decide +kernel), ?_⟩
  replace h := zq_nx3 (q := 8) h rfl
  refine ⟨zq_k_n 42 h rfl (zq_o_42 _), ?_⟩
  replace h := zq_nx1 (q := 9) h rfl
  refine ⟨zq_k_u2 180 (fun z => .getfield z) 21 h rfl (zq_o_180 _) (by decide +kernel), ?_⟩
  replace h := zq_nx3 (q := 12) h rfl
  refine ⟨zq_k_n 3 h rfl (zq_o_3 _), ?_⟩
  replace h := zq_nx1 (q := 13) h rfl
  refine ⟨zq_k_u2 184 (fun z => .invokestatic z) 40 h rfl (zq_o_184 _) (by decide +kernel), ?_⟩
  replace h := zq_nx3 (q := 16) h rfl
  refine ⟨zq_k_n 3 h rfl (zq_o_3 _), ?_⟩
  replace h := zq_nx1 (q := 17) h rfl
  refine ⟨zq_k_n 61 h rfl (zq_o_61 _), ?_⟩
  replace h := zq_nx1 (q := 18) h rfl
  refine ⟨zq_k_n 28 h rfl (zq_o_28 _), ?_⟩
  replace h := zq_nx1 (q := 19) h rfl
  refine ⟨zq_k_n 6 h rfl (zq_o_6 _), ?_⟩
  replace h := zq_nx1 (q := 20) h rfl
  refine ⟨zq_k_s2 162 (fun z => .if_icmp .ge z) 32 h rfl (zq_o_162 _) (by decide +kernel), ?_⟩
  replace h := zq_nx3 (q := 23) h rfl
  refine ⟨zq_k_n 42 h rfl (zq_o_42 _), ?_⟩
  replace h := zq_nx1 (q := 24) h rfl
  refine ⟨zq_k_u2 180 (fun z => .getfield z) 9 h rfl (zq_o_180 _) (by decide +kernel), ?_⟩
  replace h := zq_nx3 (q := 27) h rfl
  refine ⟨zq_k_n 28 h rfl (zq_o_28 _), ?_⟩
  replace h := zq_nx1 (q := 28) h rfl
  refine ⟨zq_k_n 43 h rfl (zq_o_43 _), ?_⟩
  replace h := zq_nx1 (q := 29) h rfl
  refine ⟨zq_k_n 28 h rfl (zq_o_28 _), ?_⟩
  replace h := zq_nx1 (q := 30) h rfl
  refine ⟨zq_k_u2 182 (fun z => .invokevirtual z) 46 h rfl (zq_o_182 _) (by decide +kernel), ?_⟩
  replace h := zq_nx3 (q := 33) h rfl
  refine ⟨zq_k_s2 153 (fun z => .ifCond .eq z) 11 h rfl (zq_o_153 _) (by decide +kernel), ?_⟩
  replace h := zq_nx3 (q := 36) h rfl
  refine ⟨zq_k_n 43 h rfl (zq_o_43 _), ?_⟩
  replace h := zq_nx1 (q := 37) h rfl
  refine ⟨zq_k_n 28 h rfl (zq_o_28 _), ?_⟩
  replace h := zq_nx1 (q := 38) h rfl
  refine ⟨zq_k_u2 182 (fun z => .invokevirtual z) 50 h rfl (zq_o_182 _) (by decide +kernel), ?_⟩
  replace h := zq_nx3 (q := 41) h rfl
  exact zq_k_s2 167 (fun z => .goto z) 4 h rfl (zq_o_167 _) (by decide +kernel)
set_option maxRecDepth 100000 in
theorem dd_Planner_load_44 : (decode prog_3_method_2_code 44 = .ok (.iconst 0, 1)) ∧ (decode prog_3_method_2_code 45 = .ok (.iastore, 1)) ∧ (decode prog_3_method_2_code 46 = .ok (.iinc 2 1, 3)) ∧ (decode prog_3_method_2_code 49 = .ok (.goto (-31), 3)) ∧ (decode prog_3_method_2_code 52 = .ok (.iconst 0, 1)) ∧ (decode prog_3_method_2_code 53 = .ok (.istore_n 2, 1)) ∧ (decode prog_3_method_2_code 54 = .ok (.iload_n 2, 1)) ∧ (decode prog_3_method_2_code 55 = .ok (.aload_n 0, 1)) ∧ (decode prog_3_method_2_code 56 = .ok (.getfield 39, 3)) ∧ (decode prog_3_method_2_code 59 = .ok (.if_icmp .ge 96, 3)) ∧ (decode prog_3_method_2_code 62 = .ok (.aload_n 0, 1)) ∧ (decode prog_3_method_2_code 63 = .ok (.getfield 15, 3)) ∧ (decode prog_3_method_2_code 66 = .ok (.iload_n 2, 1)) ∧ (decode prog_3_method_2_code 67 = .ok (.aload_n 1, 1)) ∧ (decode prog_3_method_2_code 68 = .ok (.iload_n 2, 1)) ∧ (decode prog_3_method_2_code 69 = .ok (.invokevirtual 54, 3)) ∧ (decode prog_3_method_2_code 72 = .ok (.iastore, 1)) ∧ (decode prog_3_method_2_code 73 = .ok (.aload_n 0, 1)) ∧ (decode prog_3_method_2_code 74 = .ok (.getfield 18, 3)) ∧ (decode prog_3_method_2_code 77 = .ok (.iload_n 2, 1)) ∧ (decode prog_3_method_2_code 78 = .ok (.iconst 1, 1)) ∧ (decode prog_3_method_2_code 79 = .ok (.iadd, 1)) ∧ (decode prog_3_method_2_code 80 = .ok (.aload_n 0, 1)) ∧ (decode prog_3_method_2_code 81 = .ok (.getfield 18, 3)) := by
  have h : List.drop 44 prog_3_method_2_code.data.toList = 0x03 :: _ := rfl
  refine ⟨zq_k_n 3 h rfl (zq_o_3 _), ?_⟩
  replace h := zq_nx1 (q := 45) h rfl
  refine ⟨zq_k_n 79 h rfl (zq_o_79 _), ?_⟩
  replace h := zq_nx1 (q := 46) h rfl
  refine ⟨zq_k_iinc 2 1 h rfl (zq_o_132 _) (by decide +kernel) (by decide +kernel), ?_⟩
  replace h := zq_nx3 (q := 49) h rfl
  refine ⟨zq_k_s2 167 (fun z => .goto z) (-31) h rfl (zq_o_167 _) (by decide +kernel), ?_⟩
  replace h := zq_nx3 (q := 52) h rfl
  refine ⟨zq_k_n 3 h rfl (zq_o_3 _), ?_⟩
  replace h := zq_nx1 (q := 53) h rfl
  refine ⟨zq_k_n 61 h rfl (zq_o_61 _), ?_⟩
  replace h := zq_nx1 (q := 54) h rfl
  refine ⟨zq_k_n 28 h rfl (zq_o_28 _), ?_⟩
  replace h := zq_nx1 (q := 55) h rfl
  refine ⟨zq_k_n 42 h rfl (zq_o_42 _), ?_⟩
  replace h := zq_nx1 (q := 56) h rfl
  refine ⟨zq_k_u2 180 (fun z => .getfield z) 39 h rfl (zq_o_180 _) (by decide +kernel), ?_⟩
  replace h := zq_nx3 (q := 59) h rfl
  refine ⟨zq_k_s2 162 (fun z => .if_icmp .ge z) 96 h rfl (zq_o_162 _) (by decide +kernel), ?_⟩
  replace h := zq_nx3 (q := 62) h rfl
  refine ⟨zq_k_n 42 h rfl (zq_o_42 _), ?_⟩
  replace h := zq_nx1 (q := 63) h rfl
  refine ⟨zq_k_u2 180 (fun z => .getfield z) 15 h rfl (zq_o_180 _) (by decide +kernel), ?_⟩
  replace h := zq_nx3 (q := 66) h rfl
  refine ⟨zq_k_n 28 h rfl (zq_o_28 _), ?_⟩
  replace h := zq_nx1 (q := 67) h rfl
  refine ⟨zq_k_n 43 h rfl (zq_o_43 _), ?_⟩
  replace h := zq_nx1 (q := 68) h rfl
  refine ⟨zq_k_n 28 h rfl (zq_o_28 _), ?_⟩
  replace h := zq_nx1 (q := 69) h rfl
  refine ⟨zq_k_u2 182 (fun z => .invokevirtual z) 54 h rfl (zq_o_182 _) (by decide +kernel), ?_⟩
  replace h := zq_nx3 (q := 72) h rfl
  refine ⟨zq_k_n 79 h rfl (zq_o_79 _), ?_⟩
  replace h := zq_nx1 (q := 73) h rfl
  refine ⟨zq_k_n 42 h rfl (zq_o_42 _), ?_⟩
  replace h := zq_nx1 (q := 74) h rfl
  refine ⟨zq_k_u2 180 (fun z => .getfield z) 18 h rfl (zq_o_180 _) (by decide +kernel), ?_⟩
  replace h := zq_nx3 (q := 77) h rfl
  refine ⟨zq_k_n 28 h rfl (zq_o_28 _), ?_⟩
  replace h := zq_nx1 (q := 78) h rfl
  refine ⟨zq_k_n 4 h rfl (zq_o_4 _), ?_⟩
  replace h := zq_nx1 (q := 79) h rfl
  refine ⟨zq_k_n 96 h rfl (zq_o_96 _), ?_⟩
  replace h := zq_nx1 (q := 80) h rfl
  refine ⟨zq_k_n 42 h rfl (zq_o_42 _), ?_⟩
  replace h := zq_nx1 (q := 81) h rfl
  exact zq_k_u2 180 (fun z => .getfield z) 18 h rfl (zq_o_180 _) (by decide +kernel)
set_option maxRecDepth 100000 in
theorem dd_Planner_load_84 : (decode prog_3_method_2_code 84 = .ok (.iload_n 2, 1)) ∧ (decode prog_3_method_2_code 85 = .ok (.iaload, 1)) ∧ (decode prog_3_method_2_code 86 = .ok (.aload_n 0, 1)) ∧ (decode prog_3_method_2_code 87 = .ok (.getfield 15, 3)) ∧ (decode prog_3_method_2_code 90 = .ok (.iload_n 2, 1)) ∧ (decode prog_3_method_2_code 91 = .ok (.iaload, 1)) ∧ (decode prog_3_method_2_code 92 = .ok (.iadd, 1)) ∧ (decode prog_3_method_2_code 93 = .ok (.iastore, 1)) ∧ (decode prog_3_method_2_code 94 = .ok (.iconst 0, 1)) ∧ (decode prog_3_method_2_code 95 = .ok (.istore_n 3, 1)) ∧ (decode prog_3_method_2_code 96 = .ok (.iload_n 3, 1)) ∧ (decode prog_3_method_2_code 97 = .ok (.aload_n 1, 1)) ∧ (decode prog_3_method_2_code 98 = .ok (.getfield 57, 3)) ∧ (decode prog_3_method_2_code 101 = .ok (.if_icmp .ge 48, 3)) ∧ (decode prog_3_method_2_code 104 = .ok (.aload_n 0, 1)) ∧ (decode prog_3_method_2_code 105 = .ok (.getfield 21, 3)) ∧ (decode prog_3_method_2_code 108 = .ok (.iload_n 3, 1)) ∧ (decode prog_3_method_2_code 109 = .ok (.iconst 5, 1)) ∧ (decode prog_3_method_2_code 110 = .ok (.imul, 1)) ∧ (decode prog_3_method_2_code 111 = .ok (.iload_n 2, 1)) ∧ (decode prog_3_method_2_code 112 = .ok (.iadd, 1)) ∧ (decode prog_3_method_2_code 113 = .ok (.aload_n 1, 1)) ∧ (decode prog_3_method_2_code 114 = .ok (.iload_n 3, 1)) ∧ (decode prog_3_method_2_code 115 = .ok (.iload_n 2, 1)) := by
  have h : List.drop 84 prog_3_method_2_code.data.toList = 0x1c :: _ := rfl
  refine ⟨zq_k_n 28 h rfl (zq_o_28 _), ?_⟩
  replace h := zq_nx1 (q := 85) h rfl
  refine ⟨zq_k_n 46 h rfl (zq_o_46 _), ?_⟩
  replace h := zq_nx1 (q := 86) h rfl
  refine ⟨zq_k_n 42 h rfl (zq_o_42 _), ?_⟩
  replace h := zq_nx1 (q := 87) h rfl
  refine ⟨zq_k_u2 180 (fun z => .getfield z) 15 h rfl (zq_o_180 _) (by decide +kernel), ?_⟩
  replace h := zq_nx3 (q := 90) h rfl
  refine ⟨zq_k_n 28 h rfl (zq_o_28 _), ?_⟩
  replace h := zq_nx1 (q := 91) h rfl
  refine ⟨zq_k_n 46 h rfl (zq_o_46 _), ?_⟩
  replace h := zq_nx1 (q := 92) h rfl
  refine ⟨zq_k_n 96 h rfl (zq_o_96 _), ?_⟩
  replace h := zq_nx1 (q := 93) h rfl
  refine ⟨zq_k_n 79 h rfl (zq_o_79 _), ?_⟩
  replace h := zq_nx1 (q := 94) h rfl
  refine ⟨zq_k_n 3 h rfl (zq_o_3 _), ?_⟩
  replace h := zq_nx1 (q := 95) h rfl
  refine ⟨zq_k_n 62 h rfl (zq_o_62 _), ?_⟩
  replace h := zq_nx1 (q := 96) h rfl
  refine ⟨zq_k_n 29 h rfl (zq_o_29 _), ?_⟩
  replace h := zq_nx1 (q := 97) h rfl
  refine ⟨zq_k_n 43 h rfl (zq_o_43 _), ?_⟩
  replace h := zq_nx1 (q := 98) h rfl
  refine ⟨zq_k_u2 180 (fun z => .getfield z) 57 h rfl (zq_o_180 _) (by decide +kernel), ?_⟩
  replace h := zq_nx3 (q := 101) h rfl
  refine ⟨zq_k_s2 162 (fun z => .if_icmp .ge z) 48 h rfl (zq_o_162 _) (by decide +kernel), ?_⟩
  replace h := zq_nx3 (q := 104) h rfl
  refine ⟨zq_k_n 42 h rfl (zq_o_42 _), ?_⟩
  replace h := zq_nx1 (q := 105) h rfl
  refine ⟨zq_k_u2 180 (fun z => .getfield z) 21 h rfl (zq_o_180 _) (by decide +kernel), ?_⟩
  replace h := zq_nx3 (q := 108) h rfl
  refine ⟨zq_k_n 29 h rfl (zq_o_29 _), ?_⟩
  replace h := zq_nx1 (q := 109) h rfl
  refine ⟨zq_k_n 8 h rfl (zq_o_8 _), ?_⟩
  replace h := zq_nx1 (q := 110) h rfl
  refine ⟨zq_k_n 104 h rfl (zq_o_104 _), ?_⟩
  replace h := zq_nx1 (q := 111) h rfl
  refine ⟨zq_k_n 28 h rfl (zq_o_28 _), ?_⟩
  replace h := zq_nx1 (q := 112) h rfl
  refine ⟨zq_k_n 96 h rfl (zq_o_96 _), ?_⟩
  replace h := zq_nx1 (q := 113) h rfl
  refine ⟨zq_k_n 43 h rfl (zq_o_43 _), ?_⟩
  replace h := zq_nx1 (q := 114) h rfl
  refine ⟨zq_k_n 29 h rfl (zq_o_29 _), ?_⟩
  replace h := zq_nx1 (q := 115) h rfl
  exact zq_k_n 28 h rfl (zq_o_28 _)
set_option maxRecDepth 100000 in
theorem dd_Planner_load_116 : (decode prog_3_method_2_code 116 = .ok (.invokevirtual 60, 3)) ∧ (decode prog_3_method_2_code 119 = .ok (.iastore, 1)) ∧ (decode prog_3_method_2_code 120 = .ok (.aload_n 0, 1)) ∧ (decode prog_3_method_2_code 121 = .ok (.getfield 24, 3)) ∧ (decode prog_3_method_2_code 124 = .ok (.iload_n 3, 1)) ∧ (decode prog_3_method_2_code 125 = .ok (.iconst 5, 1)) ∧ (decode prog_3_method_2_code 126 = .ok (.imul, 1)) ∧ (decode prog_3_method_2_code 127 = .ok (.iload_n 2, 1)) ∧ (decode prog_3_method_2_code 128 = .ok (.iadd, 1)) ∧ (decode prog_3_method_2_code 129 = .ok (.aload_n 1, 1)) ∧ (decode prog_3_method_2_code 130 = .ok (.getfield 64, 3)) ∧ (decode prog_3_method_2_code 133 = .ok (.iload_n 2, 1)) ∧ (decode prog_3_method_2_code 134 = .ok (.iaload, 1)) ∧ (decode prog_3_method_2_code 135 = .ok (.aload_n 1, 1)) ∧ (decode prog_3_method_2_code 136 = .ok (.getfield 65, 3)) ∧ (decode prog_3_method_2_code 139 = .ok (.iload_n 3, 1)) ∧ (decode prog_3_method_2_code 140 = .ok (.iaload, 1)) ∧ (decode prog_3_method_2_code 141 = .ok (.iadd, 1)) ∧ (decode prog_3_method_2_code 142 = .ok (.iastore, 1)) ∧ (decode prog_3_method_2_code 143 = .ok (.iinc 3 1, 3)) ∧ (decode prog_3_method_2_code 146 = .ok (.goto (-50), 3)) ∧ (decode prog_3_method_2_code 149 = .ok (.iinc 2 1, 3)) ∧ (decode prog_3_method_2_code 152 = .ok (.goto (-98), 3)) ∧ (decode prog_3_method_2_code 155 = .ok (.return_, 1)) := by
  have h : List.drop 116 prog_3_method_2_code.data.toList = 0xb6 :: _ := rfl
  refine ⟨zq_k_u2 182 (fun z => .invokevirtual z) 60 h rfl (zq_o_182 _) (by decide +kernel), ?_⟩
  replace h := zq_nx3 (q := 119) h rfl
  refine ⟨zq_k_n 79 h rfl (zq_o_79 _), ?_⟩
  replace h := zq_nx1 (q := 120) h rfl
  refine ⟨zq_k_n 42 h rfl (zq_o_42 _), ?_⟩
  replace h := zq_nx1 (q := 121) h rfl
  refine ⟨zq_k_u2 180 (fun z => .getfield z) 24 h rfl (zq_o_180 _) (by decide +kernel), ?_⟩
  replace h := zq_nx3 (q := 124) h rfl
  refine ⟨zq_k_n 29 h rfl (zq_o_29 _), ?_⟩
  replace h := zq_nx1 (q := 125) h rfl
  refine ⟨zq_k_n 8 h rfl (zq_o_8 _), ?_⟩
  replace h := zq_nx1 (q := 126) h rfl
  refine ⟨zq_k_n 104 h rfl (zq_o_104 _), ?_⟩
  replace h := zq_nx1 (q := 127) h rfl
  refine ⟨zq_k_n 28 h rfl (zq_o_28 _), ?_⟩
  replace h := zq_nx1 (q := 128) h rfl
  refine ⟨zq_k_n 96 h rfl (zq_o_96 _), ?_⟩
  replace h := zq_nx1 (q := 129) h rfl
  refine ⟨zq_k_n 43 h rfl (zq_o_43 _), ?_⟩
  replace h := zq_nx1 (q := 130) h rfl
  refine ⟨zq_k_u2 180 (fun z => .getfield z) 64 h rfl (zq_o_180 _) (by decide +kernel), ?_⟩
  replace h := zq_nx3 (q := 133) h rfl
  refine ⟨zq_k_n 28 h rfl (zq_o_28 _), ?_⟩
  replace h := zq_nx1 (q := 134) h rfl
  refine ⟨zq_k_n 46 h rfl (zq_o_46 _), ?_⟩
  replace h := zq_nx1 (q := 135) h rfl
  refine ⟨zq_k_n 43 h rfl (zq_o_43 _), ?_⟩
  replace h := zq_nx1 (q := 136) h rfl
  refine ⟨zq_k_u2 180 (fun z => .getfield z) 65 h rfl (zq_o_180 _) (by decide +kernel), ?_⟩
  replace h := zq_nx3 (q := 139) h rfl
  refine ⟨zq_k_n 29 h rfl (zq_o_29 _), ?_⟩
  replace h := zq_nx1 (q := 140) h rfl
  refine ⟨zq_k_n 46 h rfl (zq_o_46 _), ?_⟩
  replace h := zq_nx1 (q := 141) h rfl
  refine ⟨zq_k_n 96 h rfl (zq_o_96 _), ?_⟩
  replace h := zq_nx1 (q := 142) h rfl
  refine ⟨zq_k_n 79 h rfl (zq_o_79 _), ?_⟩
  replace h := zq_nx1 (q := 143) h rfl
  refine ⟨zq_k_iinc 3 1 h rfl (zq_o_132 _) (by decide +kernel) (by decide +kernel), ?_⟩
  replace h := zq_nx3 (q := 146) h rfl
  refine ⟨zq_k_s2 167 (fun z => .goto z) (-50) h rfl (zq_o_167 _) (by decide +kernel), ?_⟩
  replace h := zq_nx3 (q := 149) h rfl
  refine ⟨zq_k_iinc 2 1 h rfl (zq_o_132 _) (by decide +kernel) (by decide +kernel), ?_⟩
  replace h := zq_nx3 (q := 152) h rfl
  refine ⟨zq_k_s2 167 (fun z => .goto z) (-98) h rfl (zq_o_167 _) (by decide +kernel), ?_⟩
  replace h := zq_nx3 (q := 155) h rfl
  exact zq_k_n 177 h rfl (zq_o_177 _)
def f_Planner_load_96b (rec54 : Nat → Nat → Int32 → mH → Option mH) (rec96 : Nat → Nat → Int32 → Int32 → mH → Option mH) (b0 : Nat) (b1 : Nat) (b2 : Int32) (b3 : Int32) (h : mH) : Option mH :=
  bd1 (gI h b1 4 1) fun x49 =>
  if x49 ≤ b3 then
    rec54 b0 b1 (b2 + (1 : Int32)) h
  else
    bd1 (gR h b0 2 4) fun x51 =>
    bd1 (kC h b1 4) fun _ =>
    bd2 (f_Realm_roomOf b1 b3 b2 h) fun x57 h55 =>
    bd1 (sI h55 0 x51 ((b3 * (5 : Int32)) + b2) x57) fun h58 =>
    bd1 (gR h58 b0 2 5) fun x60 =>
    bd1 (gR h58 b1 4 8) fun x62 =>
    bd1 (aI h58 0 x62 b2) fun x64 =>
    bd1 (gR h58 b1 4 12) fun x66 =>
    bd1 (aI h58 0 x66 b3) fun x68 =>
    bd1 (sI h58 0 x60 ((b3 * (5 : Int32)) + b2) (x64 + x68)) fun h70 =>
    rec96 b0 b1 b2 (b3 + (1 : Int32)) h70
set_option maxRecDepth 20000 in
theorem t_Planner_load_96b {sc : Nat × (Nat → Int32)} (rec54 : Nat → Nat → Int32 → mH → Option mH) (hrec54 : ∀ (b0 : Nat) (b1 : Nat) (b2 : Int32) (h : mH) (h' : mH), rec54 b0 b1 b2 h = some h' → G sc y_Planner_load prog_3_method_2_code 4 none 2 45 54 [(0, .ref b0), (1, .ref b1), (2, .int b2)] [] h none h') (rec96 : Nat → Nat → Int32 → Int32 → mH → Option mH) (hrec96 : ∀ (b0 : Nat) (b1 : Nat) (b2 : Int32) (b3 : Int32) (h : mH) (h' : mH), rec96 b0 b1 b2 b3 h = some h' → G sc y_Planner_load prog_3_method_2_code 4 none 2 45 96 [(0, .ref b0), (1, .ref b1), (2, .int b2), (3, .int b3)] [] h none h') (b0 : Nat) (b1 : Nat) (b2 : Int32) (b3 : Int32) (h : mH) (h' : mH) (hf : f_Planner_load_96b rec54 rec96 b0 b1 b2 b3 h = some h') : G sc y_Planner_load prog_3_method_2_code 4 none 2 45 96 [(0, .ref b0), (1, .ref b1), (2, .int b2), (3, .int b3)] [] h none h' := by
  unfold f_Planner_load_96b at hf
  refine g_iload_n (pc := 96) 3 dd_Planner_load_84.2.2.2.2.2.2.2.2.2.2.1 rfl rfl ?_
  refine g_aload_n (pc := 97) 1 dd_Planner_load_84.2.2.2.2.2.2.2.2.2.2.2.1 rfl rfl ?_
  obtain ⟨x49, e50, hf⟩ := bd1_e hf
  refine g_get (pc := 98) (ci := 4) (kk := 1) dd_Planner_load_84.2.2.2.2.2.2.2.2.2.2.2.2.1 rfl in_Realm (by decide) wd_100 (gI_spec e50) ?_
  refine g_icmpge (pc := 101) 149 dd_Planner_load_84.2.2.2.2.2.2.2.2.2.2.2.2.2.1 (by decide) (fun c72 => ?_) (fun c72 => ?_)
  · replace hf := (if_pos c72).symm.trans hf
    refine g_iinc (pc := 149) 2 (b2 + (1 : Int32)) [(2, .int (b2 + (1 : Int32))), (0, .ref b0), (1, .ref b1), (3, .int b3)] dd_Planner_load_116.2.2.2.2.2.2.2.2.2.2.2.2.2.2.2.2.2.2.2.2.2.1 rfl rfl (Nat.le_of_ble_eq_true rfl) rfl ?_
    refine g_goto (pc := 152) 54 dd_Planner_load_116.2.2.2.2.2.2.2.2.2.2.2.2.2.2.2.2.2.2.2.2.2.2.1 (by decide) ?_
    refine g_lv [1, 2, 0] rfl ?_
    exact hrec54 _ _ _ _ _  hf
  · replace hf := (if_neg c72).symm.trans hf
    refine g_aload_n (pc := 104) 0 dd_Planner_load_84.2.2.2.2.2.2.2.2.2.2.2.2.2.2.1 rfl rfl ?_
    obtain ⟨x51, e52, hf⟩ := bd1_e hf
    refine g_get (pc := 105) (ci := 2) (kk := 4) dd_Planner_load_84.2.2.2.2.2.2.2.2.2.2.2.2.2.2.2.1 rfl in_Planner (by decide) wd_208 (gR_spec e52) ?_
    refine g_iload_n (pc := 108) 3 dd_Planner_load_84.2.2.2.2.2.2.2.2.2.2.2.2.2.2.2.2.1 rfl rfl ?_
    refine g_iconst (pc := 109) (5 : Int32) dd_Planner_load_84.2.2.2.2.2.2.2.2.2.2.2.2.2.2.2.2.2.1 (by decide) ?_
    refine g_imul (pc := 110) dd_Planner_load_84.2.2.2.2.2.2.2.2.2.2.2.2.2.2.2.2.2.2.1 ?_
    refine g_iload_n (pc := 111) 2 dd_Planner_load_84.2.2.2.2.2.2.2.2.2.2.2.2.2.2.2.2.2.2.2.1 rfl rfl ?_
    refine g_iadd (pc := 112) dd_Planner_load_84.2.2.2.2.2.2.2.2.2.2.2.2.2.2.2.2.2.2.2.2.1 ?_
    refine g_aload_n (pc := 113) 1 dd_Planner_load_84.2.2.2.2.2.2.2.2.2.2.2.2.2.2.2.2.2.2.2.2.2.1 rfl rfl ?_
    refine g_iload_n (pc := 114) 3 dd_Planner_load_84.2.2.2.2.2.2.2.2.2.2.2.2.2.2.2.2.2.2.2.2.2.2.1 rfl rfl ?_
    refine g_iload_n (pc := 115) 2 dd_Planner_load_84.2.2.2.2.2.2.2.2.2.2.2.2.2.2.2.2.2.2.2.2.2.2.2 rfl rfl ?_
    obtain ⟨u54, e53, hf⟩ := bd1_e hf
    obtain ⟨x57, h55, e56, hf⟩ := bd2_e hf
    refine g_callV (pc := 116) (ci := 4) [.int b3, .int b2] (site_of si_Realm_roomOf (by decide) (by decide)) wd_669 wd_555 wd_556 dd_Planner_load_116.1 rfl e53 (Nat.le_of_ble_eq_true rfl) (fun z => absurd z si_na_Realm_roomOf) (fun z => absurd z si_na_Realm_roomOf) (fun z => absurd z si_na_Realm_roomOf) (c_Realm_roomOf e56) rfl ?_
    refine g_st [.int x57, .int ((b3 * (5 : Int32)) + b2), .ref x51] rfl ?_
    obtain ⟨h58, e59, hf⟩ := bd1_e hf
    refine g_iast (pc := 119) dd_Planner_load_116.2.1 e59 ?_
    refine g_aload_n (pc := 120) 0 dd_Planner_load_116.2.2.1 rfl rfl ?_
    obtain ⟨x60, e61, hf⟩ := bd1_e hf
    refine g_get (pc := 121) (ci := 2) (kk := 5) dd_Planner_load_116.2.2.2.1 rfl in_Planner (by decide) wd_209 (gR_spec e61) ?_
    refine g_iload_n (pc := 124) 3 dd_Planner_load_116.2.2.2.2.1 rfl rfl ?_
    refine g_iconst (pc := 125) (5 : Int32) dd_Planner_load_116.2.2.2.2.2.1 (by decide) ?_
    refine g_imul (pc := 126) dd_Planner_load_116.2.2.2.2.2.2.1 ?_
    refine g_iload_n (pc := 127) 2 dd_Planner_load_116.2.2.2.2.2.2.2.1 rfl rfl ?_
    refine g_iadd (pc := 128) dd_Planner_load_116.2.2.2.2.2.2.2.2.1 ?_
    refine g_aload_n (pc := 129) 1 dd_Planner_load_116.2.2.2.2.2.2.2.2.2.1 rfl rfl ?_
    obtain ⟨x62, e63, hf⟩ := bd1_e hf
    refine g_get (pc := 130) (ci := 4) (kk := 8) dd_Planner_load_116.2.2.2.2.2.2.2.2.2.2.1 rfl in_Realm (by decide) wd_121 (gR_spec e63) ?_
    refine g_iload_n (pc := 133) 2 dd_Planner_load_116.2.2.2.2.2.2.2.2.2.2.2.1 rfl rfl ?_
    obtain ⟨x64, e65, hf⟩ := bd1_e hf
    refine g_iald (pc := 134) dd_Planner_load_116.2.2.2.2.2.2.2.2.2.2.2.2.1 e65 ?_
    refine g_aload_n (pc := 135) 1 dd_Planner_load_116.2.2.2.2.2.2.2.2.2.2.2.2.2.1 rfl rfl ?_
    obtain ⟨x66, e67, hf⟩ := bd1_e hf
    refine g_get (pc := 136) (ci := 4) (kk := 12) dd_Planner_load_116.2.2.2.2.2.2.2.2.2.2.2.2.2.2.1 rfl in_Realm (by decide) wd_135 (gR_spec e67) ?_
    refine g_iload_n (pc := 139) 3 dd_Planner_load_116.2.2.2.2.2.2.2.2.2.2.2.2.2.2.2.1 rfl rfl ?_
    obtain ⟨x68, e69, hf⟩ := bd1_e hf
    refine g_iald (pc := 140) dd_Planner_load_116.2.2.2.2.2.2.2.2.2.2.2.2.2.2.2.2.1 e69 ?_
    refine g_iadd (pc := 141) dd_Planner_load_116.2.2.2.2.2.2.2.2.2.2.2.2.2.2.2.2.2.1 ?_
    obtain ⟨h70, e71, hf⟩ := bd1_e hf
    refine g_iast (pc := 142) dd_Planner_load_116.2.2.2.2.2.2.2.2.2.2.2.2.2.2.2.2.2.2.1 e71 ?_
    refine g_iinc (pc := 143) 3 (b3 + (1 : Int32)) [(3, .int (b3 + (1 : Int32))), (0, .ref b0), (1, .ref b1), (2, .int b2)] dd_Planner_load_116.2.2.2.2.2.2.2.2.2.2.2.2.2.2.2.2.2.2.2.1 rfl rfl (Nat.le_of_ble_eq_true rfl) rfl ?_
    refine g_goto (pc := 146) 96 dd_Planner_load_116.2.2.2.2.2.2.2.2.2.2.2.2.2.2.2.2.2.2.2.2.1 (by decide) ?_
    refine g_lv [1, 2, 3, 0] rfl ?_
    exact hrec96 _ _ _ _ _ _  hf
def f_Planner_load_96 (rec54 : Nat → Nat → Int32 → mH → Option mH) : Nat → Nat → Nat → Int32 → Int32 → mH → Option mH
  | 0 => fun _ _ _ _ _ => none
  | n + 1 => f_Planner_load_96b rec54 (f_Planner_load_96 rec54 n)
theorem t_Planner_load_96 {sc : Nat × (Nat → Int32)} (rec54 : Nat → Nat → Int32 → mH → Option mH) (hrec54 : ∀ (b0 : Nat) (b1 : Nat) (b2 : Int32) (h : mH) (h' : mH), rec54 b0 b1 b2 h = some h' → G sc y_Planner_load prog_3_method_2_code 4 none 2 45 54 [(0, .ref b0), (1, .ref b1), (2, .int b2)] [] h none h') : ∀ (n : Nat) (b0 : Nat) (b1 : Nat) (b2 : Int32) (b3 : Int32) (h : mH) (h' : mH) (hf : f_Planner_load_96 rec54 n b0 b1 b2 b3 h = some h'), G sc y_Planner_load prog_3_method_2_code 4 none 2 45 96 [(0, .ref b0), (1, .ref b1), (2, .int b2), (3, .int b3)] [] h none h'
  | 0, _, _, _, _, _, _, hf => by cases hf
  | n + 1, _, _, _, _, _, _, hf => t_Planner_load_96b rec54 hrec54 (f_Planner_load_96 rec54 n) (t_Planner_load_96 rec54 hrec54 n) _ _ _ _ _ _ hf
def f_Planner_load_54b (rec54 : Nat → Nat → Int32 → mH → Option mH) (b0 : Nat) (b1 : Nat) (b2 : Int32) (h : mH) : Option mH :=
  bd1 (gI h b0 2 0) fun x25 =>
  if x25 ≤ b2 then
    some h
  else
    bd1 (gR h b0 2 2) fun x27 =>
    bd1 (kC h b1 4) fun _ =>
    bd2 (f_Realm_needOf b1 b2 h) fun x33 h31 =>
    bd1 (sI h31 0 x27 b2 x33) fun h34 =>
    bd1 (gR h34 b0 2 3) fun x36 =>
    bd1 (gR h34 b0 2 3) fun x38 =>
    bd1 (aI h34 0 x38 b2) fun x40 =>
    bd1 (gR h34 b0 2 2) fun x42 =>
    bd1 (aI h34 0 x42 b2) fun x44 =>
    bd1 (sI h34 0 x36 (b2 + (1 : Int32)) (x40 + x44)) fun h46 =>
    f_Planner_load_96 rec54 FU b0 b1 b2 (0 : Int32) h46
set_option maxRecDepth 20000 in
theorem t_Planner_load_54b {sc : Nat × (Nat → Int32)} (rec54 : Nat → Nat → Int32 → mH → Option mH) (hrec54 : ∀ (b0 : Nat) (b1 : Nat) (b2 : Int32) (h : mH) (h' : mH), rec54 b0 b1 b2 h = some h' → G sc y_Planner_load prog_3_method_2_code 4 none 2 45 54 [(0, .ref b0), (1, .ref b1), (2, .int b2)] [] h none h') (b0 : Nat) (b1 : Nat) (b2 : Int32) (h : mH) (h' : mH) (hf : f_Planner_load_54b rec54 b0 b1 b2 h = some h') : G sc y_Planner_load prog_3_method_2_code 4 none 2 45 54 [(0, .ref b0), (1, .ref b1), (2, .int b2)] [] h none h' := by
  unfold f_Planner_load_54b at hf
  refine g_iload_n (pc := 54) 2 dd_Planner_load_44.2.2.2.2.2.2.1 rfl rfl ?_
  refine g_aload_n (pc := 55) 0 dd_Planner_load_44.2.2.2.2.2.2.2.1 rfl rfl ?_
  obtain ⟨x25, e26, hf⟩ := bd1_e hf
  refine g_get (pc := 56) (ci := 2) (kk := 0) dd_Planner_load_44.2.2.2.2.2.2.2.2.1 rfl in_Planner (by decide) wd_204 (gI_spec e26) ?_
  refine g_icmpge (pc := 59) 155 dd_Planner_load_44.2.2.2.2.2.2.2.2.2.1 (by decide) (fun c48 => ?_) (fun c48 => ?_)
  · replace hf := (if_pos c48).symm.trans hf
    obtain rfl := ret1 hf
    exact g_vret (pc := 155) rfl dd_Planner_load_116.2.2.2.2.2.2.2.2.2.2.2.2.2.2.2.2.2.2.2.2.2.2.2
  · replace hf := (if_neg c48).symm.trans hf
    refine g_aload_n (pc := 62) 0 dd_Planner_load_44.2.2.2.2.2.2.2.2.2.2.1 rfl rfl ?_
    obtain ⟨x27, e28, hf⟩ := bd1_e hf
    refine g_get (pc := 63) (ci := 2) (kk := 2) dd_Planner_load_44.2.2.2.2.2.2.2.2.2.2.2.1 rfl in_Planner (by decide) wd_206 (gR_spec e28) ?_
    refine g_iload_n (pc := 66) 2 dd_Planner_load_44.2.2.2.2.2.2.2.2.2.2.2.2.1 rfl rfl ?_
    refine g_aload_n (pc := 67) 1 dd_Planner_load_44.2.2.2.2.2.2.2.2.2.2.2.2.2.1 rfl rfl ?_
    refine g_iload_n (pc := 68) 2 dd_Planner_load_44.2.2.2.2.2.2.2.2.2.2.2.2.2.2.1 rfl rfl ?_
    obtain ⟨u30, e29, hf⟩ := bd1_e hf
    obtain ⟨x33, h31, e32, hf⟩ := bd2_e hf
    refine g_callV (pc := 69) (ci := 4) [.int b2] (site_of si_Realm_needOf (by decide) (by decide)) wd_668 wd_521 wd_522 dd_Planner_load_44.2.2.2.2.2.2.2.2.2.2.2.2.2.2.2.1 rfl e29 (Nat.le_of_ble_eq_true rfl) (fun z => absurd z si_na_Realm_needOf) (fun z => absurd z si_na_Realm_needOf) (fun z => absurd z si_na_Realm_needOf) (c_Realm_needOf e32) rfl ?_
    refine g_st [.int x33, .int b2, .ref x27] rfl ?_
    obtain ⟨h34, e35, hf⟩ := bd1_e hf
    refine g_iast (pc := 72) dd_Planner_load_44.2.2.2.2.2.2.2.2.2.2.2.2.2.2.2.2.1 e35 ?_
    refine g_aload_n (pc := 73) 0 dd_Planner_load_44.2.2.2.2.2.2.2.2.2.2.2.2.2.2.2.2.2.1 rfl rfl ?_
    obtain ⟨x36, e37, hf⟩ := bd1_e hf
    refine g_get (pc := 74) (ci := 2) (kk := 3) dd_Planner_load_44.2.2.2.2.2.2.2.2.2.2.2.2.2.2.2.2.2.2.1 rfl in_Planner (by decide) wd_207 (gR_spec e37) ?_
    refine g_iload_n (pc := 77) 2 dd_Planner_load_44.2.2.2.2.2.2.2.2.2.2.2.2.2.2.2.2.2.2.2.1 rfl rfl ?_
    refine g_iconst (pc := 78) (1 : Int32) dd_Planner_load_44.2.2.2.2.2.2.2.2.2.2.2.2.2.2.2.2.2.2.2.2.1 (by decide) ?_
    refine g_iadd (pc := 79) dd_Planner_load_44.2.2.2.2.2.2.2.2.2.2.2.2.2.2.2.2.2.2.2.2.2.1 ?_
    refine g_aload_n (pc := 80) 0 dd_Planner_load_44.2.2.2.2.2.2.2.2.2.2.2.2.2.2.2.2.2.2.2.2.2.2.1 rfl rfl ?_
    obtain ⟨x38, e39, hf⟩ := bd1_e hf
    refine g_get (pc := 81) (ci := 2) (kk := 3) dd_Planner_load_44.2.2.2.2.2.2.2.2.2.2.2.2.2.2.2.2.2.2.2.2.2.2.2 rfl in_Planner (by decide) wd_207 (gR_spec e39) ?_
    refine g_iload_n (pc := 84) 2 dd_Planner_load_84.1 rfl rfl ?_
    obtain ⟨x40, e41, hf⟩ := bd1_e hf
    refine g_iald (pc := 85) dd_Planner_load_84.2.1 e41 ?_
    refine g_aload_n (pc := 86) 0 dd_Planner_load_84.2.2.1 rfl rfl ?_
    obtain ⟨x42, e43, hf⟩ := bd1_e hf
    refine g_get (pc := 87) (ci := 2) (kk := 2) dd_Planner_load_84.2.2.2.1 rfl in_Planner (by decide) wd_206 (gR_spec e43) ?_
    refine g_iload_n (pc := 90) 2 dd_Planner_load_84.2.2.2.2.1 rfl rfl ?_
    obtain ⟨x44, e45, hf⟩ := bd1_e hf
    refine g_iald (pc := 91) dd_Planner_load_84.2.2.2.2.2.1 e45 ?_
    refine g_iadd (pc := 92) dd_Planner_load_84.2.2.2.2.2.2.1 ?_
    obtain ⟨h46, e47, hf⟩ := bd1_e hf
    refine g_iast (pc := 93) dd_Planner_load_84.2.2.2.2.2.2.2.1 e47 ?_
    refine g_iconst (pc := 94) (0 : Int32) dd_Planner_load_84.2.2.2.2.2.2.2.2.1 (by decide) ?_
    refine g_istore_n (pc := 95) [(3, .int (0 : Int32)), (0, .ref b0), (1, .ref b1), (2, .int b2)] dd_Planner_load_84.2.2.2.2.2.2.2.2.2.1 rfl (Nat.le_of_ble_eq_true rfl) rfl ?_
    refine g_lv [1, 2, 3, 0] rfl ?_
    exact t_Planner_load_96 rec54 hrec54 FU _ _ _ _ _ _  hf
def f_Planner_load_54  : Nat → Nat → Nat → Int32 → mH → Option mH
  | 0 => fun _ _ _ _ => none
  | n + 1 => f_Planner_load_54b  (f_Planner_load_54  n)
theorem t_Planner_load_54 {sc : Nat × (Nat → Int32)}  : ∀ (n : Nat) (b0 : Nat) (b1 : Nat) (b2 : Int32) (h : mH) (h' : mH) (hf : f_Planner_load_54  n b0 b1 b2 h = some h'), G sc y_Planner_load prog_3_method_2_code 4 none 2 45 54 [(0, .ref b0), (1, .ref b1), (2, .int b2)] [] h none h'
  | 0, _, _, _, _, _, hf => by cases hf
  | n + 1, _, _, _, _, _, hf => t_Planner_load_54b  (f_Planner_load_54  n) (t_Planner_load_54  n) _ _ _ _ _ hf
def f_Planner_load_45 (rec18 : Nat → Nat → Int32 → mH → Option mH) (b0 : Nat) (b1 : Nat) (b2 : Int32) (s0 : Nat) (s1 : Int32) (s2 : Int32) (h : mH) : Option mH :=
  bd1 (sI h 0 s0 s1 s2) fun h23 =>
  rec18 b0 b1 (b2 + (1 : Int32)) h23
set_option maxRecDepth 20000 in
theorem t_Planner_load_45 {sc : Nat × (Nat → Int32)} (rec18 : Nat → Nat → Int32 → mH → Option mH) (hrec18 : ∀ (b0 : Nat) (b1 : Nat) (b2 : Int32) (h : mH) (h' : mH), rec18 b0 b1 b2 h = some h' → G sc y_Planner_load prog_3_method_2_code 4 none 2 45 18 [(0, .ref b0), (1, .ref b1), (2, .int b2)] [] h none h') (b0 : Nat) (b1 : Nat) (b2 : Int32) (s0 : Nat) (s1 : Int32) (s2 : Int32) (h : mH) (h' : mH) (hf : f_Planner_load_45 rec18 b0 b1 b2 s0 s1 s2 h = some h') : G sc y_Planner_load prog_3_method_2_code 4 none 2 45 45 [(0, .ref b0), (1, .ref b1), (2, .int b2)] [.int s2, .int s1, .ref s0] h none h' := by
  unfold f_Planner_load_45 at hf
  obtain ⟨h23, e24, hf⟩ := bd1_e hf
  refine g_iast (pc := 45) dd_Planner_load_44.2.1 e24 ?_
  refine g_iinc (pc := 46) 2 (b2 + (1 : Int32)) [(2, .int (b2 + (1 : Int32))), (0, .ref b0), (1, .ref b1)] dd_Planner_load_44.2.2.1 rfl rfl (Nat.le_of_ble_eq_true rfl) rfl ?_
  refine g_goto (pc := 49) 18 dd_Planner_load_44.2.2.2.1 (by decide) ?_
  refine g_lv [1, 2, 0] rfl ?_
  exact hrec18 _ _ _ _ _  hf
def f_Planner_load_18b (rec18 : Nat → Nat → Int32 → mH → Option mH) (b0 : Nat) (b1 : Nat) (b2 : Int32) (h : mH) : Option mH :=
  if (3 : Int32) ≤ b2 then
    f_Planner_load_54  FU b0 b1 (0 : Int32) h
  else
    bd1 (gR h b0 2 1) fun x9 =>
    bd1 (kC h b1 4) fun _ =>
    bd2 (f_Realm_hasOne b1 b2 h) fun x15 h13 =>
    if x15 = 0 then
      f_Planner_load_45 rec18 b0 b1 b2 x9 b2 (0 : Int32) h13
    else
      bd1 (kC h13 b1 4) fun _ =>
      bd2 (f_Realm_timeLeft b1 b2 h13) fun x20 h18 =>
      f_Planner_load_45 rec18 b0 b1 b2 x9 b2 x20 h18
set_option maxRecDepth 20000 in
theorem t_Planner_load_18b {sc : Nat × (Nat → Int32)} (rec18 : Nat → Nat → Int32 → mH → Option mH) (hrec18 : ∀ (b0 : Nat) (b1 : Nat) (b2 : Int32) (h : mH) (h' : mH), rec18 b0 b1 b2 h = some h' → G sc y_Planner_load prog_3_method_2_code 4 none 2 45 18 [(0, .ref b0), (1, .ref b1), (2, .int b2)] [] h none h') (b0 : Nat) (b1 : Nat) (b2 : Int32) (h : mH) (h' : mH) (hf : f_Planner_load_18b rec18 b0 b1 b2 h = some h') : G sc y_Planner_load prog_3_method_2_code 4 none 2 45 18 [(0, .ref b0), (1, .ref b1), (2, .int b2)] [] h none h' := by
  unfold f_Planner_load_18b at hf
  refine g_iload_n (pc := 18) 2 dd_Planner_load_0.2.2.2.2.2.2.2.2.2.2.1 rfl rfl ?_
  refine g_iconst (pc := 19) (3 : Int32) dd_Planner_load_0.2.2.2.2.2.2.2.2.2.2.2.1 (by decide) ?_
  refine g_icmpge (pc := 20) 52 dd_Planner_load_0.2.2.2.2.2.2.2.2.2.2.2.2.1 (by decide) (fun c22 => ?_) (fun c22 => ?_)
  · replace hf := (if_pos c22).symm.trans hf
    refine g_iconst (pc := 52) (0 : Int32) dd_Planner_load_44.2.2.2.2.1 (by decide) ?_
    refine g_istore_n (pc := 53) [(2, .int (0 : Int32)), (0, .ref b0), (1, .ref b1)] dd_Planner_load_44.2.2.2.2.2.1 rfl (Nat.le_of_ble_eq_true rfl) rfl ?_
    refine g_lv [1, 2, 0] rfl ?_
    exact t_Planner_load_54  FU _ _ _ _ _  hf
  · replace hf := (if_neg c22).symm.trans hf
    refine g_aload_n (pc := 23) 0 dd_Planner_load_0.2.2.2.2.2.2.2.2.2.2.2.2.2.1 rfl rfl ?_
    obtain ⟨x9, e10, hf⟩ := bd1_e hf
    refine g_get (pc := 24) (ci := 2) (kk := 1) dd_Planner_load_0.2.2.2.2.2.2.2.2.2.2.2.2.2.2.1 rfl in_Planner (by decide) wd_205 (gR_spec e10) ?_
    refine g_iload_n (pc := 27) 2 dd_Planner_load_0.2.2.2.2.2.2.2.2.2.2.2.2.2.2.2.1 rfl rfl ?_
    refine g_aload_n (pc := 28) 1 dd_Planner_load_0.2.2.2.2.2.2.2.2.2.2.2.2.2.2.2.2.1 rfl rfl ?_
    refine g_iload_n (pc := 29) 2 dd_Planner_load_0.2.2.2.2.2.2.2.2.2.2.2.2.2.2.2.2.2.1 rfl rfl ?_
    obtain ⟨u12, e11, hf⟩ := bd1_e hf
    obtain ⟨x15, h13, e14, hf⟩ := bd2_e hf
    refine g_callV (pc := 30) (ci := 4) [.int b2] (site_of si_Realm_hasOne (by decide) (by decide)) wd_666 wd_492 wd_493 dd_Planner_load_0.2.2.2.2.2.2.2.2.2.2.2.2.2.2.2.2.2.2.1 rfl e11 (Nat.le_of_ble_eq_true rfl) (fun z => absurd z si_na_Realm_hasOne) (fun z => absurd z si_na_Realm_hasOne) (fun z => absurd z si_na_Realm_hasOne) (c_Realm_hasOne e14) rfl ?_
    refine g_st [.int x15, .int b2, .ref x9] rfl ?_
    refine g_ifeq (pc := 33) 44 dd_Planner_load_0.2.2.2.2.2.2.2.2.2.2.2.2.2.2.2.2.2.2.2.1 (by decide) (fun c21 => ?_) (fun c21 => ?_)
    · replace hf := (if_pos c21).symm.trans hf
      refine g_iconst (pc := 44) (0 : Int32) dd_Planner_load_44.1 (by decide) ?_
      refine g_lv [0, 1, 2] rfl ?_
      exact t_Planner_load_45 rec18 hrec18 _ _ _ _ _ _ _ _  hf
    · replace hf := (if_neg c21).symm.trans hf
      refine g_aload_n (pc := 36) 1 dd_Planner_load_0.2.2.2.2.2.2.2.2.2.2.2.2.2.2.2.2.2.2.2.2.1 rfl rfl ?_
      refine g_iload_n (pc := 37) 2 dd_Planner_load_0.2.2.2.2.2.2.2.2.2.2.2.2.2.2.2.2.2.2.2.2.2.1 rfl rfl ?_
      obtain ⟨u17, e16, hf⟩ := bd1_e hf
      obtain ⟨x20, h18, e19, hf⟩ := bd2_e hf
      refine g_callV (pc := 38) (ci := 4) [.int b2] (site_of si_Realm_timeLeft (by decide) (by decide)) wd_667 wd_559 wd_560 dd_Planner_load_0.2.2.2.2.2.2.2.2.2.2.2.2.2.2.2.2.2.2.2.2.2.2.1 rfl e16 (Nat.le_of_ble_eq_true rfl) (fun z => absurd z si_na_Realm_timeLeft) (fun z => absurd z si_na_Realm_timeLeft) (fun z => absurd z si_na_Realm_timeLeft) (c_Realm_timeLeft e19) rfl ?_
      refine g_st [.int x20, .int b2, .ref x9] rfl ?_
      refine g_goto (pc := 41) 45 dd_Planner_load_0.2.2.2.2.2.2.2.2.2.2.2.2.2.2.2.2.2.2.2.2.2.2.2 (by decide) ?_
      refine g_lv [0, 1, 2] rfl ?_
      exact t_Planner_load_45 rec18 hrec18 _ _ _ _ _ _ _ _  hf
def f_Planner_load_18  : Nat → Nat → Nat → Int32 → mH → Option mH
  | 0 => fun _ _ _ _ => none
  | n + 1 => f_Planner_load_18b  (f_Planner_load_18  n)
theorem t_Planner_load_18 {sc : Nat × (Nat → Int32)}  : ∀ (n : Nat) (b0 : Nat) (b1 : Nat) (b2 : Int32) (h : mH) (h' : mH) (hf : f_Planner_load_18  n b0 b1 b2 h = some h'), G sc y_Planner_load prog_3_method_2_code 4 none 2 45 18 [(0, .ref b0), (1, .ref b1), (2, .int b2)] [] h none h'
  | 0, _, _, _, _, _, hf => by cases hf
  | n + 1, _, _, _, _, _, hf => t_Planner_load_18b  (f_Planner_load_18  n) (t_Planner_load_18  n) _ _ _ _ _ hf
def f_Planner_load_0  (a0 : Nat) (a1 : Nat) (h : mH) : Option mH :=
  bd1 (gI h a1 4 0) fun x1 =>
  bd1 (pV h a0 2 0 (.int x1)) fun h3 =>
  bd1 (gR h3 a0 2 4) fun x5 =>
  bd1 (f_Arrays_fillI x5 (0 : Int32) h3) fun h7 =>
  f_Planner_load_18  FU a0 a1 (0 : Int32) h7
set_option maxRecDepth 20000 in
theorem t_Planner_load_0 {sc : Nat × (Nat → Int32)}  (a0 : Nat) (a1 : Nat) (h : mH) (h' : mH) (hf : f_Planner_load_0  a0 a1 h = some h') : G sc y_Planner_load prog_3_method_2_code 4 none 2 45 0 [(0, .ref a0), (1, .ref a1)] [] h none h' := by
  unfold f_Planner_load_0 at hf
  refine g_aload_n (pc := 0) 0 dd_Planner_load_0.1 rfl rfl ?_
  refine g_aload_n (pc := 1) 1 dd_Planner_load_0.2.1 rfl rfl ?_
  obtain ⟨x1, e2, hf⟩ := bd1_e hf
  refine g_get (pc := 2) (ci := 4) (kk := 0) dd_Planner_load_0.2.2.1 rfl in_Realm (by decide) wd_94 (gI_spec e2) ?_
  obtain ⟨h3, e4, hf⟩ := bd1_e hf
  refine g_put (pc := 5) (ci := 2) (kk := 0) ty_Planner tyok_Planner nm_Planner dd_Planner_load_0.2.2.2.1 rfl in_Planner (by decide) wd_204 rfl (fun _ => rfl) (fun _ => rfl) (fun _ z => by cases z) e4 ?_
  refine g_aload_n (pc := 8) 0 dd_Planner_load_0.2.2.2.2.1 rfl rfl ?_
  obtain ⟨x5, e6, hf⟩ := bd1_e hf
  refine g_get (pc := 9) (ci := 2) (kk := 4) dd_Planner_load_0.2.2.2.2.2.1 rfl in_Planner (by decide) wd_208 (gR_spec e6) ?_
  refine g_iconst (pc := 12) (0 : Int32) dd_Planner_load_0.2.2.2.2.2.2.1 (by decide) ?_
  obtain ⟨h7, e8, hf⟩ := bd1_e hf
  refine g_callS (pc := 13) [.ref x5, .int (0 : Int32)] (site_of si_Arrays_fillI (by decide) (by decide)) wd_665 wd_355 dd_Planner_load_0.2.2.2.2.2.2.2.1 (Nat.le_of_ble_eq_true rfl) (fun z => absurd z si_na_Arrays_fillI) (fun z => absurd z si_na_Arrays_fillI) (fun z => absurd z si_na_Arrays_fillI) (c_Arrays_fillI e8) rfl ?_
  refine g_st [] rfl ?_
  refine g_iconst (pc := 16) (0 : Int32) dd_Planner_load_0.2.2.2.2.2.2.2.2.1 (by decide) ?_
  refine g_istore_n (pc := 17) [(2, .int (0 : Int32)), (0, .ref a0), (1, .ref a1)] dd_Planner_load_0.2.2.2.2.2.2.2.2.2.1 rfl (Nat.le_of_ble_eq_true rfl) rfl ?_
  refine g_lv [1, 2, 0] rfl ?_
  exact t_Planner_load_18  FU _ _ _ _ _  hf
def f_Planner_load (a0 : Nat) (a1 : Nat) (h : mH) : Option mH := f_Planner_load_0 a0 a1 h
theorem c_Planner_load {sc : Nat × (Nat → Int32)} {a0 : Nat} {a1 : Nat} {h : mH} {h' : mH} (hf : f_Planner_load a0 a1 h = some h') : MM sc y_Planner_load prog_3_method_2_code 4 none 2 45 [.ref a0, .ref a1] h none h' :=
  mm_of_G si_pn_Planner (Nat.le_of_ble_eq_true rfl) (t_Planner_load_0 _ _ _ _ hf)
/-! Planner leftToLast (III)I -/
set_option maxRecDepth 100000 in
theorem dd_Planner_leftToLast_0 : (decode prog_3_method_9_code 0 = .ok (.aload_n 0, 1)) ∧ (decode prog_3_method_9_code 1 = .ok (.getfield 9, 3)) ∧ (decode prog_3_method_9_code 4 = .ok (.iconst 2, 1)) ∧ (decode prog_3_method_9_code 5 = .ok (.iaload, 1)) ∧ (decode prog_3_method_9_code 6 = .ok (.aload_n 0, 1)) ∧ (decode prog_3_method_9_code 7 = .ok (.getfield 18, 3)) ∧ (decode prog_3_method_9_code 10 = .ok (.iload_n 1, 1)) ∧ (decode prog_3_method_9_code 11 = .ok (.iaload, 1)) ∧ (decode prog_3_method_9_code 12 = .ok (.isub, 1)) ∧ (decode prog_3_method_9_code 13 = .ok (.aload_n 0, 1)) ∧ (decode prog_3_method_9_code 14 = .ok (.getfield 9, 3)) ∧ (decode prog_3_method_9_code 17 = .ok (.iconst 0, 1)) ∧ (decode prog_3_method_9_code 18 = .ok (.iaload, 1)) ∧ (decode prog_3_method_9_code 19 = .ok (.iadd, 1)) ∧ (decode prog_3_method_9_code 20 = .ok (.iload_n 2, 1)) ∧ (decode prog_3_method_9_code 21 = .ok (.isub, 1)) ∧ (decode prog_3_method_9_code 22 = .ok (.aload_n 0, 1)) ∧ (decode prog_3_method_9_code 23 = .ok (.getfield 9, 3)) ∧ (decode prog_3_method_9_code 26 = .ok (.iconst 1, 1)) ∧ (decode prog_3_method_9_code 27 = .ok (.iaload, 1)) ∧ (decode prog_3_method_9_code 28 = .ok (.iadd, 1)) ∧ (decode prog_3_method_9_code 29 = .ok (.iload_n 3, 1)) ∧ (decode prog_3_method_9_code 30 = .ok (.isub, 1)) ∧ (decode prog_3_method_9_code 31 = .ok (.ireturn, 1)) := by
  have h : List.drop 0 prog_3_method_9_code.data.toList = 0x2a :: _ := rfl
  refine ⟨zq_k_n 42 h rfl (zq_o_42 _), ?_⟩
  replace h := zq_nx1 (q := 1) h rfl
  refine ⟨zq_k_u2 180 (fun z => .getfield z) 9 h rfl (zq_o_180 _) (by decide +kernel), ?_⟩
  replace h := zq_nx3 (q := 4) h rfl
  refine ⟨zq_k_n 5 h rfl (zq_o_5 _), ?_⟩
  replace h := zq_nx1 (q := 5) h rfl
  refine ⟨zq_k_n 46 h rfl (zq_o_46 _), ?_⟩
  replace h := zq_nx1 (q := 6) h rfl
  refine ⟨zq_k_n 42 h rfl (zq_o_42 _), ?_⟩
  replace h := zq_nx1 (q := 7) h rfl
  refine ⟨zq_k_u2 180 (fun z => .getfield z) 18 h rfl (zq_o_180 _) (by decide +kernel), ?_⟩
  replace h := zq_nx3 (q := 10) h rfl
  refine ⟨zq_k_n 27 h rfl (zq_o_27 _), ?_⟩
  replace h := zq_nx1 (q := 11) h rfl
  refine ⟨zq_k_n 46 h rfl (zq_o_46 _), ?_⟩
  replace h := zq_nx1 (q := 12) h rfl
  refine ⟨zq_k_n 100 h rfl (zq_o_100 _), ?_⟩
  replace h := zq_nx1 (q := 13) h rfl
  refine ⟨zq_k_n 42 h rfl (zq_o_42 _), ?_⟩
  replace h := zq_nx1 (q := 14) h rfl
  refine ⟨zq_k_u2 180 (fun z => .getfield z) 9 h rfl (zq_o_180 _) (by decide +kernel), ?_⟩
  replace h := zq_nx3 (q := 17) h rfl
  refine ⟨zq_k_n 3 h rfl (zq_o_3 _), ?_⟩
  replace h := zq_nx1 (q := 18) h rfl
  refine ⟨zq_k_n 46 h rfl (zq_o_46 _), ?_⟩
  replace h := zq_nx1 (q := 19) h rfl
  refine ⟨zq_k_n 96 h rfl (zq_o_96 _), ?_⟩
  replace h := zq_nx1 (q := 20) h rfl
  refine ⟨zq_k_n 28 h rfl (zq_o_28 _), ?_⟩
  replace h := zq_nx1 (q := 21) h rfl
  refine ⟨zq_k_n 100 h rfl (zq_o_100 _), ?_⟩
  replace h := zq_nx1 (q := 22) h rfl
  refine ⟨zq_k_n 42 h rfl (zq_o_42 _), ?_⟩
  replace h := zq_nx1 (q := 23) h rfl
  refine ⟨zq_k_u2 180 (fun z => .getfield z) 9 h rfl (zq_o_180 _) (by decide +kernel), ?_⟩
  replace h := zq_nx3 (q := 26) h rfl
  refine ⟨zq_k_n 4 h rfl (zq_o_4 _), ?_⟩
  replace h := zq_nx1 (q := 27) h rfl
  refine ⟨zq_k_n 46 h rfl (zq_o_46 _), ?_⟩
  replace h := zq_nx1 (q := 28) h rfl
  refine ⟨zq_k_n 96 h rfl (zq_o_96 _), ?_⟩
  replace h := zq_nx1 (q := 29) h rfl
  refine ⟨zq_k_n 29 h rfl (zq_o_29 _), ?_⟩
  replace h := zq_nx1 (q := 30) h rfl
  refine ⟨zq_k_n 100 h rfl (zq_o_100 _), ?_⟩
  replace h := zq_nx1 (q := 31) h rfl
  exact zq_k_n 172 h rfl (zq_o_172 _)
def f_Planner_leftToLast_0  (a0 : Nat) (a1 : Int32) (a2 : Int32) (a3 : Int32) (h : mH) : Option (Int32 × mH) :=
  bd1 (gR h a0 2 1) fun x1 =>
  bd1 (aI h 0 x1 (2 : Int32)) fun x3 =>
  bd1 (gR h a0 2 3) fun x5 =>
  bd1 (aI h 0 x5 a1) fun x7 =>
  bd1 (gR h a0 2 1) fun x9 =>
  bd1 (aI h 0 x9 (0 : Int32)) fun x11 =>
  bd1 (gR h a0 2 1) fun x13 =>
  bd1 (aI h 0 x13 (1 : Int32)) fun x15 =>
  some (((((x3 - x7) + x11) - a2) + x15) - a3, h)
set_option maxRecDepth 20000 in
theorem t_Planner_leftToLast_0 {sc : Nat × (Nat → Int32)}  (a0 : Nat) (a1 : Int32) (a2 : Int32) (a3 : Int32) (h : mH) (r : Int32) (h' : mH) (hf : f_Planner_leftToLast_0  a0 a1 a2 a3 h = some (r, h')) : G sc y_Planner_leftToLast prog_3_method_9_code 4 (some .int) 0 0 0 [(0, .ref a0), (1, .int a1), (2, .int a2), (3, .int a3)] [] h (some (.int r)) h' := by
  unfold f_Planner_leftToLast_0 at hf
  refine g_aload_n (pc := 0) 0 dd_Planner_leftToLast_0.1 rfl rfl ?_
  obtain ⟨x1, e2, hf⟩ := bd1_e hf
  refine g_get (pc := 1) (ci := 2) (kk := 1) dd_Planner_leftToLast_0.2.1 rfl in_Planner (by decide) wd_205 (gR_spec e2) ?_
  refine g_iconst (pc := 4) (2 : Int32) dd_Planner_leftToLast_0.2.2.1 (by decide) ?_
  obtain ⟨x3, e4, hf⟩ := bd1_e hf
  refine g_iald (pc := 5) dd_Planner_leftToLast_0.2.2.2.1 e4 ?_
  refine g_aload_n (pc := 6) 0 dd_Planner_leftToLast_0.2.2.2.2.1 rfl rfl ?_
  obtain ⟨x5, e6, hf⟩ := bd1_e hf
  refine g_get (pc := 7) (ci := 2) (kk := 3) dd_Planner_leftToLast_0.2.2.2.2.2.1 rfl in_Planner (by decide) wd_207 (gR_spec e6) ?_
  refine g_iload_n (pc := 10) 1 dd_Planner_leftToLast_0.2.2.2.2.2.2.1 rfl rfl ?_
  obtain ⟨x7, e8, hf⟩ := bd1_e hf
  refine g_iald (pc := 11) dd_Planner_leftToLast_0.2.2.2.2.2.2.2.1 e8 ?_
  refine g_isub (pc := 12) dd_Planner_leftToLast_0.2.2.2.2.2.2.2.2.1 ?_
  refine g_aload_n (pc := 13) 0 dd_Planner_leftToLast_0.2.2.2.2.2.2.2.2.2.1 rfl rfl ?_
  obtain ⟨x9, e10, hf⟩ := bd1_e hf
  refine g_get (pc := 14) (ci := 2) (kk := 1) dd_Planner_leftToLast_0.2.2.2.2.2.2.2.2.2.2.1 rfl in_Planner (by decide) wd_205 (gR_spec e10) ?_
  refine g_iconst (pc := 17) (0 : Int32) dd_Planner_leftToLast_0.2.2.2.2.2.2.2.2.2.2.2.1 (by decide) ?_
  obtain ⟨x11, e12, hf⟩ := bd1_e hf
  refine g_iald (pc := 18) dd_Planner_leftToLast_0.2.2.2.2.2.2.2.2.2.2.2.2.1 e12 ?_
  refine g_iadd (pc := 19) dd_Planner_leftToLast_0.2.2.2.2.2.2.2.2.2.2.2.2.2.1 ?_
  refine g_iload_n (pc := 20) 2 dd_Planner_leftToLast_0.2.2.2.2.2.2.2.2.2.2.2.2.2.2.1 rfl rfl ?_
  refine g_isub (pc := 21) dd_Planner_leftToLast_0.2.2.2.2.2.2.2.2.2.2.2.2.2.2.2.1 ?_
  refine g_aload_n (pc := 22) 0 dd_Planner_leftToLast_0.2.2.2.2.2.2.2.2.2.2.2.2.2.2.2.2.1 rfl rfl ?_
  obtain ⟨x13, e14, hf⟩ := bd1_e hf
  refine g_get (pc := 23) (ci := 2) (kk := 1) dd_Planner_leftToLast_0.2.2.2.2.2.2.2.2.2.2.2.2.2.2.2.2.2.1 rfl in_Planner (by decide) wd_205 (gR_spec e14) ?_
  refine g_iconst (pc := 26) (1 : Int32) dd_Planner_leftToLast_0.2.2.2.2.2.2.2.2.2.2.2.2.2.2.2.2.2.2.1 (by decide) ?_
  obtain ⟨x15, e16, hf⟩ := bd1_e hf
  refine g_iald (pc := 27) dd_Planner_leftToLast_0.2.2.2.2.2.2.2.2.2.2.2.2.2.2.2.2.2.2.2.1 e16 ?_
  refine g_iadd (pc := 28) dd_Planner_leftToLast_0.2.2.2.2.2.2.2.2.2.2.2.2.2.2.2.2.2.2.2.2.1 ?_
  refine g_iload_n (pc := 29) 3 dd_Planner_leftToLast_0.2.2.2.2.2.2.2.2.2.2.2.2.2.2.2.2.2.2.2.2.2.1 rfl rfl ?_
  refine g_isub (pc := 30) dd_Planner_leftToLast_0.2.2.2.2.2.2.2.2.2.2.2.2.2.2.2.2.2.2.2.2.2.2.1 ?_
  obtain ⟨rfl, rfl⟩ := ret2 hf
  exact g_iret (pc := 31) rfl dd_Planner_leftToLast_0.2.2.2.2.2.2.2.2.2.2.2.2.2.2.2.2.2.2.2.2.2.2.2
def f_Planner_leftToLast (a0 : Nat) (a1 : Int32) (a2 : Int32) (a3 : Int32) (h : mH) : Option (Int32 × mH) := f_Planner_leftToLast_0 a0 a1 a2 a3 h
theorem c_Planner_leftToLast {sc : Nat × (Nat → Int32)} {a0 : Nat} {a1 : Int32} {a2 : Int32} {a3 : Int32} {h : mH} {r : Int32} {h' : mH} (hf : f_Planner_leftToLast a0 a1 a2 a3 h = some (r, h')) : MM sc y_Planner_leftToLast prog_3_method_9_code 4 (some .int) 0 0 [.ref a0, .int a1, .int a2, .int a3] h (some (.int r)) h' :=
  mm_of_G si_pn_Planner (Nat.le_of_ble_eq_true rfl) (t_Planner_leftToLast_0 _ _ _ _ _ _ _ hf)
/-! Planner stateOf (III)I -/
set_option maxRecDepth 100000 in
theorem dd_Planner_stateOf_0 : (decode prog_3_method_10_code 0 = .ok (.iload_n 0, 1)) ∧ (decode prog_3_method_10_code 1 = .ok (.bipush 6, 2)) ∧ (decode prog_3_method_10_code 3 = .ok (.imul, 1)) ∧ (decode prog_3_method_10_code 4 = .ok (.iload_n 1, 1)) ∧ (decode prog_3_method_10_code 5 = .ok (.iadd, 1)) ∧ (decode prog_3_method_10_code 6 = .ok (.bipush 6, 2)) ∧ (decode prog_3_method_10_code 8 = .ok (.imul, 1)) ∧ (decode prog_3_method_10_code 9 = .ok (.iload_n 2, 1)) ∧ (decode prog_3_method_10_code 10 = .ok (.iadd, 1)) ∧ (decode prog_3_method_10_code 11 = .ok (.ireturn, 1)) := by
  have h : List.drop 0 prog_3_method_10_code.data.toList = 0x1a :: _ := rfl
  refine ⟨zq_k_n 26 h rfl (zq_o_26 _), ?_⟩
  replace h := zq_nx1 (q := 1) h rfl
  refine ⟨zq_k_s1 16 (fun z => .bipush z) 6 h rfl (zq_o_16 _) (by decide +kernel), ?_⟩
  replace h := zq_nx2 (q := 3) h rfl
  refine ⟨zq_k_n 104 h rfl (zq_o_104 _), ?_⟩
  replace h := zq_nx1 (q := 4) h rfl
  refine ⟨zq_k_n 27 h rfl (zq_o_27 _), ?_⟩
  replace h := zq_nx1 (q := 5) h rfl
  refine ⟨zq_k_n 96 h rfl (zq_o_96 _), ?_⟩
  replace h := zq_nx1 (q := 6) h rfl
  refine ⟨zq_k_s1 16 (fun z => .bipush z) 6 h rfl (zq_o_16 _) (by decide +kernel), ?_⟩
  replace h := zq_nx2 (q := 8) h rfl
  refine ⟨zq_k_n 104 h rfl (zq_o_104 _), ?_⟩
  replace h := zq_nx1 (q := 9) h rfl
  refine ⟨zq_k_n 28 h rfl (zq_o_28 _), ?_⟩
  replace h := zq_nx1 (q := 10) h rfl
  refine ⟨zq_k_n 96 h rfl (zq_o_96 _), ?_⟩
  replace h := zq_nx1 (q := 11) h rfl
  exact zq_k_n 172 h rfl (zq_o_172 _)
def f_Planner_stateOf_0  (a0 : Int32) (a1 : Int32) (a2 : Int32) (h : mH) : Option (Int32 × mH) :=
  some ((((a0 * (6 : Int32)) + a1) * (6 : Int32)) + a2, h)
set_option maxRecDepth 20000 in
theorem t_Planner_stateOf_0 {sc : Nat × (Nat → Int32)}  (a0 : Int32) (a1 : Int32) (a2 : Int32) (h : mH) (r : Int32) (h' : mH) (hf : f_Planner_stateOf_0  a0 a1 a2 h = some (r, h')) : G sc y_Planner_stateOf prog_3_method_10_code 3 (some .int) 0 0 0 [(0, .int a0), (1, .int a1), (2, .int a2)] [] h (some (.int r)) h' := by
  unfold f_Planner_stateOf_0 at hf
  refine g_iload_n (pc := 0) 0 dd_Planner_stateOf_0.1 rfl rfl ?_
  refine g_bipush (pc := 1) (6 : Int32) dd_Planner_stateOf_0.2.1 (by decide) ?_
  refine g_imul (pc := 3) dd_Planner_stateOf_0.2.2.1 ?_
  refine g_iload_n (pc := 4) 1 dd_Planner_stateOf_0.2.2.2.1 rfl rfl ?_
  refine g_iadd (pc := 5) dd_Planner_stateOf_0.2.2.2.2.1 ?_
  refine g_bipush (pc := 6) (6 : Int32) dd_Planner_stateOf_0.2.2.2.2.2.1 (by decide) ?_
  refine g_imul (pc := 8) dd_Planner_stateOf_0.2.2.2.2.2.2.1 ?_
  refine g_iload_n (pc := 9) 2 dd_Planner_stateOf_0.2.2.2.2.2.2.2.1 rfl rfl ?_
  refine g_iadd (pc := 10) dd_Planner_stateOf_0.2.2.2.2.2.2.2.2.1 ?_
  obtain ⟨rfl, rfl⟩ := ret2 hf
  exact g_iret (pc := 11) rfl dd_Planner_stateOf_0.2.2.2.2.2.2.2.2.2
def f_Planner_stateOf (a0 : Int32) (a1 : Int32) (a2 : Int32) (h : mH) : Option (Int32 × mH) := f_Planner_stateOf_0 a0 a1 a2 h
theorem c_Planner_stateOf {sc : Nat × (Nat → Int32)} {a0 : Int32} {a1 : Int32} {a2 : Int32} {h : mH} {r : Int32} {h' : mH} (hf : f_Planner_stateOf a0 a1 a2 h = some (r, h')) : MM sc y_Planner_stateOf prog_3_method_10_code 3 (some .int) 0 0 [.int a0, .int a1, .int a2] h (some (.int r)) h' :=
  mm_of_G si_pn_Planner (Nat.le_of_ble_eq_true rfl) (t_Planner_stateOf_0 _ _ _ _ _ _ hf)
/-! Planner search (III)I -/
set_option maxRecDepth 100000 in
theorem dd_Planner_search_0 : (decode prog_3_method_11_code 0 = .ok (.ldc 89, 2)) ∧ (decode prog_3_method_11_code 2 = .ok (.istore 4, 2)) ∧ (decode prog_3_method_11_code 4 = .ok (.aload_n 0, 1)) ∧ (decode prog_3_method_11_code 5 = .ok (.getfield 21, 3)) ∧ (decode prog_3_method_11_code 8 = .ok (.iload_n 1, 1)) ∧ (decode prog_3_method_11_code 9 = .ok (.iaload, 1)) ∧ (decode prog_3_method_11_code 10 = .ok (.iload_n 2, 1)) ∧ (decode prog_3_method_11_code 11 = .ok (.invokestatic 86, 3)) ∧ (decode prog_3_method_11_code 14 = .ok (.istore 5, 2)) ∧ (decode prog_3_method_11_code 16 = .ok (.aload_n 0, 1)) ∧ (decode prog_3_method_11_code 17 = .ok (.getfield 21, 3)) ∧ (decode prog_3_method_11_code 20 = .ok (.iconst 5, 1)) ∧ (decode prog_3_method_11_code 21 = .ok (.iload_n 1, 1)) ∧ (decode prog_3_method_11_code 22 = .ok (.iadd, 1)) ∧ (decode prog_3_method_11_code 23 = .ok (.iaload, 1)) ∧ (decode prog_3_method_11_code 24 = .ok (.iload_n 3, 1)) ∧ (decode prog_3_method_11_code 25 = .ok (.invokestatic 86, 3)) ∧ (decode prog_3_method_11_code 28 = .ok (.istore 6, 2)) ∧ (decode prog_3_method_11_code 30 = .ok (.aload_n 0, 1)) ∧ (decode prog_3_method_11_code 31 = .ok (.getfield 21, 3)) ∧ (decode prog_3_method_11_code 34 = .ok (.bipush 10, 2)) ∧ (decode prog_3_method_11_code 36 = .ok (.iload_n 1, 1)) ∧ (decode prog_3_method_11_code 37 = .ok (.iadd, 1)) ∧ (decode prog_3_method_11_code 38 = .ok (.iaload, 1)) := by
  have h : List.drop 0 prog_3_method_11_code.data.toList = 0x12 :: _ := rfl
  refine ⟨zq_k_u1 18 (fun z => .ldc z) 89 h rfl (zq_o_18 _) (by decide +kernel), ?_⟩
  replace h := zq_nx2 (q := 2) h rfl
  refine ⟨zq_k_u1 54 (fun z => .istore z) 4 h rfl (zq_o_54 _) (by decide +kernel), ?_⟩
  replace h := zq_nx2 (q := 4) h rfl
  refine ⟨zq_k_n 42 h rfl (zq_o_42 _), ?_⟩
  replace h := zq_nx1 (q := 5) h rfl
  refine ⟨zq_k_u2 180 (fun z => .getfield z) 21 h rfl (zq_o_180 _) (by decide +kernel), ?_⟩
  replace h := zq_nx3 (q := 8) h rfl
  refine ⟨zq_k_n 27 h rfl (zq_o_27 _), ?_⟩
  replace h := zq_nx1 (q := 9) h rfl
  refine ⟨zq_k_n 46 h rfl (zq_o_46 _), ?_⟩
  replace h := zq_nx1 (q := 10) h rfl
  refine ⟨zq_k_n 28 h rfl (zq_o_28 _), ?_⟩
  replace h := zq_nx1 (q := 11) h rfl
  refine ⟨zq_k_u2 184 (fun z => .invokestatic z) 86 h rfl (zq_o_184 _) (by decide +kernel), ?_⟩
  replace h := zq_nx3 (q := 14) h rfl
  refine ⟨zq_k_u1 54 (fun z => .istore z) 5 h rfl (zq_o_54 _) (by decide +kernel), ?_⟩
  replace h := zq_nx2 (q := 16) h rfl
  refine ⟨zq_k_n 42 h rfl (zq_o_42 _), ?_⟩
  replace h := zq_nx1 (q := 17) h rfl
  refine ⟨zq_k_u2 180 (fun z => .getfield z) 21 h rfl (zq_o_180 _) (by decide +kernel), ?_⟩
  replace h := zq_nx3 (q := 20) h rfl
  refine ⟨zq_k_n 8 h rfl (zq_o_8 _), ?_⟩
  replace h := zq_nx1 (q := 21) h rfl
  refine ⟨zq_k_n 27 h rfl (zq_o_27 _), ?_⟩
  replace h := zq_nx1 (q := 22) h rfl
  refine ⟨zq_k_n 96 h rfl (zq_o_96 _), ?_⟩
  replace h := zq_nx1 (q := 23) h rfl
  refine ⟨zq_k_n 46 h rfl (zq_o_46 _), ?_⟩
  replace h := zq_nx1 (q := 24) h rfl
  refine ⟨zq_k_n 29 h rfl (zq_o_29 _), ?_⟩
  replace h := zq_nx1 (q := 25) h rfl
  refine ⟨zq_k_u2 184 (fun z => .invokestatic z) 86 h rfl (zq_o_184 _) (by decide +kernel), ?_⟩
  replace h := zq_nx3 (q := 28) h rfl
  refine ⟨zq_k_u1 54 (fun z => .istore z) 6 h rfl (zq_o_54 _) (by decide +kernel), ?_⟩
  replace h := zq_nx2 (q := 30) h rfl
  refine ⟨zq_k_n 42 h rfl (zq_o_42 _), ?_⟩
  replace h := zq_nx1 (q := 31) h rfl
  refine ⟨zq_k_u2 180 (fun z => .getfield z) 21 h rfl (zq_o_180 _) (by decide +kernel), ?_⟩
  replace h := zq_nx3 (q := 34) h rfl
  refine ⟨zq_k_s1 16 (fun z => .bipush z) 10 h rfl (zq_o_16 _) (by decide +kernel), ?_⟩
  replace h := zq_nx2 (q := 36) h rfl
  refine ⟨zq_k_n 27 h rfl (zq_o_27 _), ?_⟩
  replace h := zq_nx1 (q := 37) h rfl
  refine ⟨zq_k_n 96 h rfl (zq_o_96 _), ?_⟩
  replace h := zq_nx1 (q := 38) h rfl
  exact zq_k_n 46 h rfl (zq_o_46 _)
set_option maxRecDepth 100000 in
theorem dd_Planner_search_39 : (decode prog_3_method_11_code 39 = .ok (.aload_n 0, 1)) ∧ (decode prog_3_method_11_code 40 = .ok (.iload_n 1, 1)) ∧ (decode prog_3_method_11_code 41 = .ok (.iload_n 2, 1)) ∧ (decode prog_3_method_11_code 42 = .ok (.iload_n 3, 1)) ∧ (decode prog_3_method_11_code 43 = .ok (.invokevirtual 90, 3)) ∧ (decode prog_3_method_11_code 46 = .ok (.invokestatic 86, 3)) ∧ (decode prog_3_method_11_code 49 = .ok (.istore 7, 2)) ∧ (decode prog_3_method_11_code 51 = .ok (.iconst 0, 1)) ∧ (decode prog_3_method_11_code 52 = .ok (.istore 8, 2)) ∧ (decode prog_3_method_11_code 54 = .ok (.iload 8, 2)) ∧ (decode prog_3_method_11_code 56 = .ok (.iload 5, 2)) ∧ (decode prog_3_method_11_code 58 = .ok (.if_icmp .gt 146, 3)) ∧ (decode prog_3_method_11_code 61 = .ok (.iconst 0, 1)) ∧ (decode prog_3_method_11_code 62 = .ok (.istore 9, 2)) ∧ (decode prog_3_method_11_code 64 = .ok (.iload 9, 2)) ∧ (decode prog_3_method_11_code 66 = .ok (.iload 6, 2)) ∧ (decode prog_3_method_11_code 68 = .ok (.if_icmp .gt 130, 3)) ∧ (decode prog_3_method_11_code 71 = .ok (.aload_n 0, 1)) ∧ (decode prog_3_method_11_code 72 = .ok (.getfield 15, 3)) ∧ (decode prog_3_method_11_code 75 = .ok (.iload_n 1, 1)) ∧ (decode prog_3_method_11_code 76 = .ok (.iaload, 1)) ∧ (decode prog_3_method_11_code 77 = .ok (.iload 8, 2)) ∧ (decode prog_3_method_11_code 79 = .ok (.isub, 1)) ∧ (decode prog_3_method_11_code 80 = .ok (.iload 9, 2)) := by
  have h : List.drop 39 prog_3_method_11_code.data.toList = 0x2a :: _ := rfl
  refine ⟨zq_k_n 42 h rfl (zq_o_42 _), ?_⟩
  replace h := zq_nx1 (q := 40) h rfl
  refine ⟨zq_k_n 27 h rfl (zq_o_27 _), ?_⟩
  replace h := zq_nx1 (q := 41) h rfl
  refine ⟨zq_k_n 28 h rfl (zq_o_28 _), ?_⟩
  replace h := zq_nx1 (q := 42) h rfl
  refine ⟨zq_k_n 29 h rfl (zq_o_29 _), ?_⟩
  replace h := zq_nx1 (q := 43) h rfl
  refine ⟨zq_k_u2 182 (fun z => .invokevirtual z) 90 h rfl (zq_o_182 _) (by decide +kernel), ?_⟩
  replace h := zq_nx3 (q := 46) h rfl
  refine ⟨zq_k_u2 184 (fun z => .invokestatic z) 86 h rfl (zq_o_184 _) (by decide +kernel), ?_⟩
  replace h := zq_nx3 (q := 49) h rfl
  refine ⟨zq_k_u1 54 (fun z => .istore z) 7 h rfl (zq_o_54 _) (by decide +kernel), ?_⟩
  replace h := zq_nx2 (q := 51) h rfl
  refine ⟨zq_k_n 3 h rfl (zq_o_3 _), ?_⟩
  replace h := zq_nx1 (q := 52) h rfl
  refine ⟨zq_k_u1 54 (fun z => .istore z) 8 h rfl (zq_o_54 _) (by decide +kernel), ?_⟩
  replace h := zq_nx2 (q := 54) h rfl
  refine ⟨zq_k_u1 21 (fun z => .iload z) 8 h rfl (zq_o_21 _) (by decide +kernel), ?_⟩
  replace h := zq_nx2 (q := 56) h rfl
  refine ⟨zq_k_u1 21 (fun z => .iload z) 5 h rfl (zq_o_21 _) (by decide +kernel), ?_⟩
  replace h := zq_nx2 (q := 58) h rfl
  refine ⟨zq_k_s2 163 (fun z => .if_icmp .gt z) 146 h rfl (zq_o_163 _) (by decide +kernel), ?_⟩
  replace h := zq_nx3 (q := 61) h rfl
  refine ⟨zq_k_n 3 h rfl (zq_o_3 _), ?_⟩
  replace h := zq_nx1 (q := 62) h rfl
  refine ⟨zq_k_u1 54 (fun z => .istore z) 9 h rfl (zq_o_54 _) (by decide +kernel), ?_⟩
  replace h := zq_nx2 (q := 64) h rfl
  refine ⟨zq_k_u1 21 (fun z => .iload z) 9 h rfl (zq_o_21 _) (by decide +kernel), ?_⟩
  replace h := zq_nx2 (q := 66) h rfl
  refine ⟨zq_k_u1 21 (fun z => .iload z) 6 h rfl (zq_o_21 _) (by decide +kernel), ?_⟩
  replace h := zq_nx2 (q := 68) h rfl
  refine ⟨zq_k_s2 163 (fun z => .if_icmp .gt z) 130 h rfl (zq_o_163 _) (by decide +kernel), ?_⟩
  replace h := zq_nx3 (q := 71) h rfl
  refine ⟨zq_k_n 42 h rfl (zq_o_42 _), ?_⟩
  replace h := zq_nx1 (q := 72) h rfl
  refine ⟨zq_k_u2 180 (fun z => .getfield z) 15 h rfl (zq_o_180 _) (by decide +kernel), ?_⟩
  replace h := zq_nx3 (q := 75) h rfl
  refine ⟨zq_k_n 27 h rfl (zq_o_27 _), ?_⟩
  replace h := zq_nx1 (q := 76) h rfl
  refine ⟨zq_k_n 46 h rfl (zq_o_46 _), ?_⟩
  replace h := zq_nx1 (q := 77) h rfl
  refine ⟨zq_k_u1 21 (fun z => .iload z) 8 h rfl (zq_o_21 _) (by decide +kernel), ?_⟩
  replace h := zq_nx2 (q := 79) h rfl
  refine ⟨zq_k_n 100 h rfl (zq_o_100 _), ?_⟩
  replace h := zq_nx1 (q := 80) h rfl
  exact zq_k_u1 21 (fun z => .iload z) 9 h rfl (zq_o_21 _) (by decide +kernel)
set_option maxRecDepth 100000 in
theorem dd_Planner_search_82 : (decode prog_3_method_11_code 82 = .ok (.isub, 1)) ∧ (decode prog_3_method_11_code 83 = .ok (.istore 10, 2)) ∧ (decode prog_3_method_11_code 85 = .ok (.iload 10, 2)) ∧ (decode prog_3_method_11_code 87 = .ok (.iconst 0, 1)) ∧ (decode prog_3_method_11_code 88 = .ok (.iload 7, 2)) ∧ (decode prog_3_method_11_code 90 = .ok (.invokestatic 100, 3)) ∧ (decode prog_3_method_11_code 93 = .ok (.ifCond .eq 99, 3)) ∧ (decode prog_3_method_11_code 96 = .ok (.iload 8, 2)) ∧ (decode prog_3_method_11_code 98 = .ok (.aload_n 0, 1)) ∧ (decode prog_3_method_11_code 99 = .ok (.getfield 24, 3)) ∧ (decode prog_3_method_11_code 102 = .ok (.iload_n 1, 1)) ∧ (decode prog_3_method_11_code 103 = .ok (.iaload, 1)) ∧ (decode prog_3_method_11_code 104 = .ok (.imul, 1)) ∧ (decode prog_3_method_11_code 105 = .ok (.iload 9, 2)) ∧ (decode prog_3_method_11_code 107 = .ok (.aload_n 0, 1)) ∧ (decode prog_3_method_11_code 108 = .ok (.getfield 24, 3)) ∧ (decode prog_3_method_11_code 111 = .ok (.iconst 5, 1)) ∧ (decode prog_3_method_11_code 112 = .ok (.iload_n 1, 1)) ∧ (decode prog_3_method_11_code 113 = .ok (.iadd, 1)) ∧ (decode prog_3_method_11_code 114 = .ok (.iaload, 1)) ∧ (decode prog_3_method_11_code 115 = .ok (.imul, 1)) ∧ (decode prog_3_method_11_code 116 = .ok (.iadd, 1)) ∧ (decode prog_3_method_11_code 117 = .ok (.iload 10, 2)) ∧ (decode prog_3_method_11_code 119 = .ok (.aload_n 0, 1)) := by
  have h : List.drop 82 prog_3_method_11_code.data.toList = 0x64 :: _ := rfl
  refine ⟨zq_k_n 100 h rfl (zq_o_100 _), ?_⟩
  replace h := zq_nx1 (q := 83) h rfl
  refine ⟨zq_k_u1 54 (fun z => .istore z) 10 h rfl (zq_o_54 _) (by decide +kernel), ?_⟩
  replace h := zq_nx2 (q := 85) h rfl
  refine ⟨zq_k_u1 21 (fun z => .iload z) 10 h rfl (zq_o_21 _) (by decide +kernel), ?_⟩
  replace h := zq_nx2 (q := 87) h rfl
  refine ⟨zq_k_n 3 h rfl (zq_o_3 _), ?_⟩
  replace h := zq_nx1 (q := 88) h rfl
  refine ⟨zq_k_u1 21 (fun z => .iload z) 7 h rfl (zq_o_21 _) (by decide +kernel), ?_⟩
  replace h := zq_nx2 (q := 90) h rfl
  refine ⟨zq_k_u2 184 (fun z => .invokestatic z) 100 h rfl (zq_o_184 _) (by decide +kernel), ?_⟩
  replace h := zq_nx3 (q := 93) h rfl
  refine ⟨zq_k_s2 153 (fun z => .ifCond .eq z) 99 h rfl (zq_o_153 _) (by decide +kernel), ?_⟩
  replace h := zq_nx3 (q := 96) h rfl
  refine ⟨zq_k_u1 21 (fun z => .iload z) 8 h rfl (zq_o_21 _) (by decide +kernel), ?_⟩
  replace h := zq_nx2 (q := 98) h rfl
  refine ⟨zq_k_n 42 h rfl (zq_o_42 _), ?_⟩
  replace h := zq_nx1 (q := 99) h rfl
  refine ⟨zq_k_u2 180 (fun z => .getfield z) 24 h rfl (zq_o_180 _) (by decide +kernel), ?_⟩
  replace h := zq_nx3 (q := 102) h rfl
  refine ⟨zq_k_n 27 h rfl (zq_o_27 _), ?_⟩
  replace h := zq_nx1 (q := 103) h rfl
  refine ⟨zq_k_n 46 h rfl (zq_o_46 _), ?_⟩
  replace h := zq_nx1 (q := 104) h rfl
  refine ⟨zq_k_n 104 h rfl (zq_o_104 _), ?_⟩
  replace h := zq_nx1 (q := 105) h rfl
  refine ⟨zq_k_u1 21 (fun z => .iload z) 9 h rfl (zq_o_21 _) (by decide +kernel), ?_⟩
  replace h := zq_nx2 (q := 107) h rfl
  refine ⟨zq_k_n 42 h rfl (zq_o_42 _), ?_⟩
  replace h := zq_nx1 (q := 108) h rfl
  refine ⟨zq_k_u2 180 (fun z => .getfield z) 24 h rfl (zq_o_180 _) (by decide +kernel), ?_⟩
  replace h := zq_nx3 (q := 111) h rfl
  refine ⟨zq_k_n 8 h rfl (zq_o_8 _), ?_⟩
  replace h := zq_nx1 (q := 112) h rfl
  refine ⟨zq_k_n 27 h rfl (zq_o_27 _), ?_⟩
  replace h := zq_nx1 (q := 113) h rfl
  refine ⟨zq_k_n 96 h rfl (zq_o_96 _), ?_⟩
  replace h := zq_nx1 (q := 114) h rfl
  refine ⟨zq_k_n 46 h rfl (zq_o_46 _), ?_⟩
  replace h := zq_nx1 (q := 115) h rfl
  refine ⟨zq_k_n 104 h rfl (zq_o_104 _), ?_⟩
  replace h := zq_nx1 (q := 116) h rfl
  refine ⟨zq_k_n 96 h rfl (zq_o_96 _), ?_⟩
  replace h := zq_nx1 (q := 117) h rfl
  refine ⟨zq_k_u1 21 (fun z => .iload z) 10 h rfl (zq_o_21 _) (by decide +kernel), ?_⟩
  replace h := zq_nx2 (q := 119) h rfl
  exact zq_k_n 42 h rfl (zq_o_42 _)
set_option maxRecDepth 100000 in
theorem dd_Planner_search_120 : (decode prog_3_method_11_code 120 = .ok (.getfield 24, 3)) ∧ (decode prog_3_method_11_code 123 = .ok (.bipush 10, 2)) ∧ (decode prog_3_method_11_code 125 = .ok (.iload_n 1, 1)) ∧ (decode prog_3_method_11_code 126 = .ok (.iadd, 1)) ∧ (decode prog_3_method_11_code 127 = .ok (.iaload, 1)) ∧ (decode prog_3_method_11_code 128 = .ok (.imul, 1)) ∧ (decode prog_3_method_11_code 129 = .ok (.iadd, 1)) ∧ (decode prog_3_method_11_code 130 = .ok (.aload_n 0, 1)) ∧ (decode prog_3_method_11_code 131 = .ok (.getfield 30, 3)) ∧ (decode prog_3_method_11_code 134 = .ok (.iload_n 1, 1)) ∧ (decode prog_3_method_11_code 135 = .ok (.iconst 1, 1)) ∧ (decode prog_3_method_11_code 136 = .ok (.iadd, 1)) ∧ (decode prog_3_method_11_code 137 = .ok (.iload_n 2, 1)) ∧ (decode prog_3_method_11_code 138 = .ok (.iload 8, 2)) ∧ (decode prog_3_method_11_code 140 = .ok (.isub, 1)) ∧ (decode prog_3_method_11_code 141 = .ok (.iload_n 3, 1)) ∧ (decode prog_3_method_11_code 142 = .ok (.iload 9, 2)) ∧ (decode prog_3_method_11_code 144 = .ok (.isub, 1)) ∧ (decode prog_3_method_11_code 145 = .ok (.invokestatic 94, 3)) ∧ (decode prog_3_method_11_code 148 = .ok (.iaload, 1)) ∧ (decode prog_3_method_11_code 149 = .ok (.iadd, 1)) ∧ (decode prog_3_method_11_code 150 = .ok (.istore 11, 2)) ∧ (decode prog_3_method_11_code 152 = .ok (.iload 11, 2)) ∧ (decode prog_3_method_11_code 154 = .ok (.iload 4, 2)) := by
  have h : List.drop 120 prog_3_method_11_code.data.toList = 0xb4 :: _ := rfl
  refine ⟨zq_k_u2 180 (fun z => .getfield z) 24 h rfl (zq_o_180 _) (by decide +kernel), ?_⟩
  replace h := zq_nx3 (q := 123) h rfl
  refine ⟨zq_k_s1 16 (fun z => .bipush z) 10 h rfl (zq_o_16 _) (by decide +kernel), ?_⟩
  replace h := zq_nx2 (q := 125) h rfl
  refine ⟨zq_k_n 27 h rfl (zq_o_27 _), ?_⟩
  replace h := zq_nx1 (q := 126) h rfl
  refine ⟨zq_k_n 96 h rfl (zq_o_96 _), ?_⟩
  replace h := zq_nx1 (q := 127) h rfl
  refine ⟨zq_k_n 46 h rfl (zq_o_46 _), ?_⟩
  replace h := zq_nx1 (q := 128) h rfl
  refine ⟨zq_k_n 104 h rfl (zq_o_104 _), ?_⟩
  replace h := zq_nx1 (q := 129) h rfl
  refine ⟨zq_k_n 96 h rfl (zq_o_96 _), ?_⟩
  replace h := zq_nx1 (q := 130) h rfl
  refine ⟨zq_k_n 42 h rfl (zq_o_42 _), ?_⟩
  replace h := zq_nx1 (q := 131) h rfl
  refine ⟨zq_k_u2 180 (fun z => .getfield z) 30 h rfl (zq_o_180 _) (by decide +kernel), ?_⟩
  replace h := zq_nx3 (q := 134) h rfl
  refine ⟨zq_k_n 27 h rfl (zq_o_27 _), ?_⟩
  replace h := zq_nx1 (q := 135) h rfl
  refine ⟨zq_k_n 4 h rfl (zq_o_4 _), ?_⟩
  replace h := zq_nx1 (q := 136) h rfl
  refine ⟨zq_k_n 96 h rfl (zq_o_96 _), ?_⟩
  replace h := zq_nx1 (q := 137) h rfl
  refine ⟨zq_k_n 28 h rfl (zq_o_28 _), ?_⟩
  replace h := zq_nx1 (q := 138) h rfl
  refine ⟨zq_k_u1 21 (fun z => .iload z) 8 h rfl (zq_o_21 _) (by decide +kernel), ?_⟩
  replace h := zq_nx2 (q := 140) h rfl
  refine ⟨zq_k_n 100 h rfl (zq_o_100 _), ?_⟩
  replace h := zq_nx1 (q := 141) h rfl
  refine ⟨zq_k_n 29 h rfl (zq_o_29 _), ?_⟩
  replace h := zq_nx1 (q := 142) h rfl
  refine ⟨zq_k_u1 21 (fun z => .iload z) 9 h rfl (zq_o_21 _) (by decide +kernel), ?_⟩
  replace h := zq_nx2 (q := 144) h rfl
  refine ⟨zq_k_n 100 h rfl (zq_o_100 _), ?_⟩
  replace h := zq_nx1 (q := 145) h rfl
  refine ⟨zq_k_u2 184 (fun z => .invokestatic z) 94 h rfl (zq_o_184 _) (by decide +kernel), ?_⟩
  replace h := zq_nx3 (q := 148) h rfl
  refine ⟨zq_k_n 46 h rfl (zq_o_46 _), ?_⟩
  replace h := zq_nx1 (q := 149) h rfl
  refine ⟨zq_k_n 96 h rfl (zq_o_96 _), ?_⟩
  replace h := zq_nx1 (q := 150) h rfl
  refine ⟨zq_k_u1 54 (fun z => .istore z) 11 h rfl (zq_o_54 _) (by decide +kernel), ?_⟩
  replace h := zq_nx2 (q := 152) h rfl
  refine ⟨zq_k_u1 21 (fun z => .iload z) 11 h rfl (zq_o_21 _) (by decide +kernel), ?_⟩
  replace h := zq_nx2 (q := 154) h rfl
  exact zq_k_u1 21 (fun z => .iload z) 4 h rfl (zq_o_21 _) (by decide +kernel)
set_option maxRecDepth 100000 in
theorem dd_Planner_search_156 : (decode prog_3_method_11_code 156 = .ok (.if_icmp .ge 36, 3)) ∧ (decode prog_3_method_11_code 159 = .ok (.iload 11, 2)) ∧ (decode prog_3_method_11_code 161 = .ok (.istore 4, 2)) ∧ (decode prog_3_method_11_code 163 = .ok (.aload_n 0, 1)) ∧ (decode prog_3_method_11_code 164 = .ok (.getfield 27, 3)) ∧ (decode prog_3_method_11_code 167 = .ok (.iload_n 1, 1)) ∧ (decode prog_3_method_11_code 168 = .ok (.iload 8, 2)) ∧ (decode prog_3_method_11_code 170 = .ok (.iastore, 1)) ∧ (decode prog_3_method_11_code 171 = .ok (.aload_n 0, 1)) ∧ (decode prog_3_method_11_code 172 = .ok (.getfield 27, 3)) ∧ (decode prog_3_method_11_code 175 = .ok (.iconst 5, 1)) ∧ (decode prog_3_method_11_code 176 = .ok (.iload_n 1, 1)) ∧ (decode prog_3_method_11_code 177 = .ok (.iadd, 1)) ∧ (decode prog_3_method_11_code 178 = .ok (.iload 9, 2)) ∧ (decode prog_3_method_11_code 180 = .ok (.iastore, 1)) ∧ (decode prog_3_method_11_code 181 = .ok (.aload_n 0, 1)) ∧ (decode prog_3_method_11_code 182 = .ok (.getfield 27, 3)) ∧ (decode prog_3_method_11_code 185 = .ok (.bipush 10, 2)) ∧ (decode prog_3_method_11_code 187 = .ok (.iload_n 1, 1)) ∧ (decode prog_3_method_11_code 188 = .ok (.iadd, 1)) ∧ (decode prog_3_method_11_code 189 = .ok (.iload 10, 2)) ∧ (decode prog_3_method_11_code 191 = .ok (.iastore, 1)) ∧ (decode prog_3_method_11_code 192 = .ok (.iinc 9 1, 3)) ∧ (decode prog_3_method_11_code 195 = .ok (.goto (-131), 3)) := by
  have h : List.drop 156 prog_3_method_11_code.data.toList = 0xa2 :: _ := rfl
  refine ⟨zq_k_s2 162 (fun z => .if_icmp .ge z) 36 h rfl (zq_o_162 _) (by decide +kernel), ?_⟩
  replace h := zq_nx3 (q := 159) h rfl
  refine ⟨zq_k_u1 21 (fun z => .iload z) 11 h rfl (zq_o_21 _) (by decide +kernel), ?_⟩
  replace h := zq_nx2 (q := 161) h rfl
  refine ⟨zq_k_u1 54 (fun z => .istore z) 4 h rfl (zq_o_54 _) (by decide +kernel), ?_⟩
  replace h := zq_nx2 (q := 163) h rfl
  refine ⟨zq_k_n 42 h rfl (zq_o_42 _), ?_⟩
  replace h := zq_nx1 (q := 164) h rfl
  refine ⟨zq_k_u2 180 (fun z => .getfield z) 27 h rfl (zq_o_180 _) (by decide +kernel), ?_⟩
  replace h := zq_nx3 (q := 167) h rfl
  refine ⟨zq_k_n 27 h rfl (zq_o_27 _), ?_⟩
  replace h := zq_nx1 (q := 168) h rfl
  refine ⟨zq_k_u1 21 (fun z => .iload z) 8 h rfl (zq_o_21 _) (by decide +kernel), ?_⟩
  replace h := zq_nx2 (q := 170) h rfl
  refine ⟨zq_k_n 79 h rfl (zq_o_79 _), ?_⟩
  replace h := zq_nx1 (q := 171) h rfl
  refine ⟨zq_k_n 42 h rfl (zq_o_42 _), ?_⟩
  replace h := zq_nx1 (q := 172) h rfl
  refine ⟨zq_k_u2 180 (fun z => .getfield z) 27 h rfl (zq_o_180 _) (by decide +kernel), ?_⟩
  replace h := zq_nx3 (q := 175) h rfl
  refine ⟨zq_k_n 8 h rfl (zq_o_8 _), ?_⟩
  replace h := zq_nx1 (q := 176) h rfl
  refine ⟨zq_k_n 27 h rfl (zq_o_27 _), ?_⟩
  replace h := zq_nx1 (q := 177) h rfl
  refine ⟨zq_k_n 96 h rfl (zq_o_96 _), ?_⟩
  replace h := zq_nx1 (q := 178) h rfl
  refine ⟨zq_k_u1 21 (fun z => .iload z) 9 h rfl (zq_o_21 _) (by decide +kernel), ?_⟩
  replace h := zq_nx2 (q := 180) h rfl
  refine ⟨zq_k_n 79 h rfl (zq_o_79 _), ?_⟩
  replace h := zq_nx1 (q := 181) h rfl
  refine ⟨zq_k_n 42 h rfl (zq_o_42 _), ?_⟩
  replace h := zq_nx1 (q := 182) h rfl
  refine ⟨zq_k_u2 180 (fun z => .getfield z) 27 h rfl (zq_o_180 _) (by decide +kernel), ?_⟩
  replace h := zq_nx3 (q := 185) h rfl
  refine ⟨zq_k_s1 16 (fun z => .bipush z) 10 h rfl (zq_o_16 _) (by decide +kernel), ?_⟩
  replace h := zq_nx2 (q := 187) h rfl
  refine ⟨zq_k_n 27 h rfl (zq_o_27 _), ?_⟩
  replace h := zq_nx1 (q := 188) h rfl
  refine ⟨zq_k_n 96 h rfl (zq_o_96 _), ?_⟩
  replace h := zq_nx1 (q := 189) h rfl
  refine ⟨zq_k_u1 21 (fun z => .iload z) 10 h rfl (zq_o_21 _) (by decide +kernel), ?_⟩
  replace h := zq_nx2 (q := 191) h rfl
  refine ⟨zq_k_n 79 h rfl (zq_o_79 _), ?_⟩
  replace h := zq_nx1 (q := 192) h rfl
  refine ⟨zq_k_iinc 9 1 h rfl (zq_o_132 _) (by decide +kernel) (by decide +kernel), ?_⟩
  replace h := zq_nx3 (q := 195) h rfl
  exact zq_k_s2 167 (fun z => .goto z) (-131) h rfl (zq_o_167 _) (by decide +kernel)
set_option maxRecDepth 100000 in
theorem dd_Planner_search_198 : (decode prog_3_method_11_code 198 = .ok (.iinc 8 1, 3)) ∧ (decode prog_3_method_11_code 201 = .ok (.goto (-147), 3)) ∧ (decode prog_3_method_11_code 204 = .ok (.iload 4, 2)) ∧ (decode prog_3_method_11_code 206 = .ok (.ireturn, 1)) := by
  have h : List.drop 198 prog_3_method_11_code.data.toList = 0x84 :: _ := rfl
  refine ⟨zq_k_iinc 8 1 h rfl (zq_o_132 _) (by decide +kernel) (by decide +kernel), ?_⟩
  replace h := zq_nx3 (q := 201) h rfl
  refine ⟨zq_k_s2 167 (fun z => .goto z) (-147) h rfl (zq_o_167 _) (by decide +kernel), ?_⟩
  replace h := zq_nx3 (q := 204) h rfl
  refine ⟨zq_k_u1 21 (fun z => .iload z) 4 h rfl (zq_o_21 _) (by decide +kernel), ?_⟩
  replace h := zq_nx2 (q := 206) h rfl
  exact zq_k_n 172 h rfl (zq_o_172 _)
def f_Planner_search_192 (rec54 : Nat → Int32 → Int32 → Int32 → Int32 → Int32 → Int32 → Int32 → Int32 → mH → Option (Int32 × mH)) (rec64 : Nat → Int32 → Int32 → Int32 → Int32 → Int32 → Int32 → Int32 → Int32 → Int32 → mH → Option (Int32 × mH)) (b0 : Nat) (b1 : Int32) (b2 : Int32) (b3 : Int32) (b4 : Int32) (b5 : Int32) (b6 : Int32) (b7 : Int32) (b8 : Int32) (b9 : Int32) (h : mH) : Option (Int32 × mH) :=
  rec64 b0 b1 b2 b3 b4 b5 b6 b7 b8 (b9 + (1 : Int32)) h
set_option maxRecDepth 20000 in
theorem t_Planner_search_192 {sc : Nat × (Nat → Int32)} (rec54 : Nat → Int32 → Int32 → Int32 → Int32 → Int32 → Int32 → Int32 → Int32 → mH → Option (Int32 × mH)) (hrec54 : ∀ (b0 : Nat) (b1 : Int32) (b2 : Int32) (b3 : Int32) (b4 : Int32) (b5 : Int32) (b6 : Int32) (b7 : Int32) (b8 : Int32) (h : mH) (r : Int32) (h' : mH), rec54 b0 b1 b2 b3 b4 b5 b6 b7 b8 h = some (r, h') → G sc y_Planner_search prog_3_method_11_code 12 (some .int) 1 23 54 [(0, .ref b0), (1, .int b1), (2, .int b2), (3, .int b3), (4, .int b4), (5, .int b5), (6, .int b6), (7, .int b7), (8, .int b8)] [] h (some (.int r)) h') (rec64 : Nat → Int32 → Int32 → Int32 → Int32 → Int32 → Int32 → Int32 → Int32 → Int32 → mH → Option (Int32 × mH)) (hrec64 : ∀ (b0 : Nat) (b1 : Int32) (b2 : Int32) (b3 : Int32) (b4 : Int32) (b5 : Int32) (b6 : Int32) (b7 : Int32) (b8 : Int32) (b9 : Int32) (h : mH) (r : Int32) (h' : mH), rec64 b0 b1 b2 b3 b4 b5 b6 b7 b8 b9 h = some (r, h') → G sc y_Planner_search prog_3_method_11_code 12 (some .int) 1 23 64 [(0, .ref b0), (1, .int b1), (2, .int b2), (3, .int b3), (4, .int b4), (5, .int b5), (6, .int b6), (7, .int b7), (8, .int b8), (9, .int b9)] [] h (some (.int r)) h') (b0 : Nat) (b1 : Int32) (b2 : Int32) (b3 : Int32) (b4 : Int32) (b5 : Int32) (b6 : Int32) (b7 : Int32) (b8 : Int32) (b9 : Int32) (h : mH) (r : Int32) (h' : mH) (hf : f_Planner_search_192 rec54 rec64 b0 b1 b2 b3 b4 b5 b6 b7 b8 b9 h = some (r, h')) : G sc y_Planner_search prog_3_method_11_code 12 (some .int) 1 23 192 [(0, .ref b0), (1, .int b1), (2, .int b2), (3, .int b3), (4, .int b4), (5, .int b5), (6, .int b6), (7, .int b7), (8, .int b8), (9, .int b9)] [] h (some (.int r)) h' := by
  unfold f_Planner_search_192 at hf
  refine g_iinc (pc := 192) 9 (b9 + (1 : Int32)) [(9, .int (b9 + (1 : Int32))), (0, .ref b0), (1, .int b1), (2, .int b2), (3, .int b3), (4, .int b4), (5, .int b5), (6, .int b6), (7, .int b7), (8, .int b8)] dd_Planner_search_156.2.2.2.2.2.2.2.2.2.2.2.2.2.2.2.2.2.2.2.2.2.2.1 rfl rfl (Nat.le_of_ble_eq_true rfl) rfl ?_
  refine g_goto (pc := 195) 64 dd_Planner_search_156.2.2.2.2.2.2.2.2.2.2.2.2.2.2.2.2.2.2.2.2.2.2.2 (by decide) ?_
  refine g_lv [1, 2, 3, 4, 5, 6, 7, 8, 9, 0] rfl ?_
  exact hrec64 _ _ _ _ _ _ _ _ _ _ _ _ _  hf
def f_Planner_search_64b (rec54 : Nat → Int32 → Int32 → Int32 → Int32 → Int32 → Int32 → Int32 → Int32 → mH → Option (Int32 × mH)) (rec64 : Nat → Int32 → Int32 → Int32 → Int32 → Int32 → Int32 → Int32 → Int32 → Int32 → mH → Option (Int32 × mH)) (b0 : Nat) (b1 : Int32) (b2 : Int32) (b3 : Int32) (b4 : Int32) (b5 : Int32) (b6 : Int32) (b7 : Int32) (b8 : Int32) (b9 : Int32) (h : mH) : Option (Int32 × mH) :=
  if b6 < b9 then
    rec54 b0 b1 b2 b3 b4 b5 b6 b7 (b8 + (1 : Int32)) h
  else
    bd1 (gR h b0 2 2) fun x19 =>
    bd1 (aI h 0 x19 b1) fun x21 =>
    bd2 (f_Q_isWithin ((x21 - b8) - b9) (0 : Int32) b7 h) fun x25 h23 =>
    if x25 = 0 then
      f_Planner_search_192 rec54 rec64 b0 b1 b2 b3 b4 b5 b6 b7 b8 b9 h23
    else
      bd1 (gR h23 b0 2 5) fun x26 =>
      bd1 (aI h23 0 x26 b1) fun x28 =>
      bd1 (gR h23 b0 2 5) fun x30 =>
      bd1 (aI h23 0 x30 ((5 : Int32) + b1)) fun x32 =>
      bd1 (gR h23 b0 2 5) fun x34 =>
      bd1 (aI h23 0 x34 ((10 : Int32) + b1)) fun x36 =>
      bd1 (gR h23 b0 2 7) fun x38 =>
      bd2 (f_Planner_stateOf (b1 + (1 : Int32)) (b2 - b8) (b3 - b9) h23) fun x42 h40 =>
      bd1 (aI h40 0 x38 x42) fun x43 =>
      if b4 ≤ ((((b8 * x28) + (b9 * x32)) + (((x21 - b8) - b9) * x36)) + x43) then
        f_Planner_search_192 rec54 rec64 b0 b1 b2 b3 b4 b5 b6 b7 b8 b9 h40
      else
        bd1 (gR h40 b0 2 6) fun x45 =>
        bd1 (sI h40 0 x45 b1 b8) fun h47 =>
        bd1 (gR h47 b0 2 6) fun x49 =>
        bd1 (sI h47 0 x49 ((5 : Int32) + b1) b9) fun h51 =>
        bd1 (gR h51 b0 2 6) fun x53 =>
        bd1 (sI h51 0 x53 ((10 : Int32) + b1) ((x21 - b8) - b9)) fun h55 =>
        f_Planner_search_192 rec54 rec64 b0 b1 b2 b3 ((((b8 * x28) + (b9 * x32)) + (((x21 - b8) - b9) * x36)) + x43) b5 b6 b7 b8 b9 h55
set_option maxRecDepth 20000 in
theorem t_Planner_search_64b {sc : Nat × (Nat → Int32)} (rec54 : Nat → Int32 → Int32 → Int32 → Int32 → Int32 → Int32 → Int32 → Int32 → mH → Option (Int32 × mH)) (hrec54 : ∀ (b0 : Nat) (b1 : Int32) (b2 : Int32) (b3 : Int32) (b4 : Int32) (b5 : Int32) (b6 : Int32) (b7 : Int32) (b8 : Int32) (h : mH) (r : Int32) (h' : mH), rec54 b0 b1 b2 b3 b4 b5 b6 b7 b8 h = some (r, h') → G sc y_Planner_search prog_3_method_11_code 12 (some .int) 1 23 54 [(0, .ref b0), (1, .int b1), (2, .int b2), (3, .int b3), (4, .int b4), (5, .int b5), (6, .int b6), (7, .int b7), (8, .int b8)] [] h (some (.int r)) h') (rec64 : Nat → Int32 → Int32 → Int32 → Int32 → Int32 → Int32 → Int32 → Int32 → Int32 → mH → Option (Int32 × mH)) (hrec64 : ∀ (b0 : Nat) (b1 : Int32) (b2 : Int32) (b3 : Int32) (b4 : Int32) (b5 : Int32) (b6 : Int32) (b7 : Int32) (b8 : Int32) (b9 : Int32) (h : mH) (r : Int32) (h' : mH), rec64 b0 b1 b2 b3 b4 b5 b6 b7 b8 b9 h = some (r, h') → G sc y_Planner_search prog_3_method_11_code 12 (some .int) 1 23 64 [(0, .ref b0), (1, .int b1), (2, .int b2), (3, .int b3), (4, .int b4), (5, .int b5), (6, .int b6), (7, .int b7), (8, .int b8), (9, .int b9)] [] h (some (.int r)) h') (b0 : Nat) (b1 : Int32) (b2 : Int32) (b3 : Int32) (b4 : Int32) (b5 : Int32) (b6 : Int32) (b7 : Int32) (b8 : Int32) (b9 : Int32) (h : mH) (r : Int32) (h' : mH) (hf : f_Planner_search_64b rec54 rec64 b0 b1 b2 b3 b4 b5 b6 b7 b8 b9 h = some (r, h')) : G sc y_Planner_search prog_3_method_11_code 12 (some .int) 1 23 64 [(0, .ref b0), (1, .int b1), (2, .int b2), (3, .int b3), (4, .int b4), (5, .int b5), (6, .int b6), (7, .int b7), (8, .int b8), (9, .int b9)] [] h (some (.int r)) h' := by
  unfold f_Planner_search_64b at hf
  refine g_iload (pc := 64) 9 dd_Planner_search_39.2.2.2.2.2.2.2.2.2.2.2.2.2.2.1 rfl ?_
  refine g_iload (pc := 66) 6 dd_Planner_search_39.2.2.2.2.2.2.2.2.2.2.2.2.2.2.2.1 rfl ?_
  refine g_icmpgt (pc := 68) 198 dd_Planner_search_39.2.2.2.2.2.2.2.2.2.2.2.2.2.2.2.2.1 (by decide) (fun c59 => ?_) (fun c59 => ?_)
  · replace hf := (if_pos c59).symm.trans hf
    refine g_iinc (pc := 198) 8 (b8 + (1 : Int32)) [(8, .int (b8 + (1 : Int32))), (0, .ref b0), (1, .int b1), (2, .int b2), (3, .int b3), (4, .int b4), (5, .int b5), (6, .int b6), (7, .int b7), (9, .int b9)] dd_Planner_search_198.1 rfl rfl (Nat.le_of_ble_eq_true rfl) rfl ?_
    refine g_goto (pc := 201) 54 dd_Planner_search_198.2.1 (by decide) ?_
    refine g_lv [1, 2, 3, 4, 5, 6, 7, 8, 0] rfl ?_
    exact hrec54 _ _ _ _ _ _ _ _ _ _ _ _  hf
  · replace hf := (if_neg c59).symm.trans hf
    refine g_aload_n (pc := 71) 0 dd_Planner_search_39.2.2.2.2.2.2.2.2.2.2.2.2.2.2.2.2.2.1 rfl rfl ?_
    obtain ⟨x19, e20, hf⟩ := bd1_e hf
    refine g_get (pc := 72) (ci := 2) (kk := 2) dd_Planner_search_39.2.2.2.2.2.2.2.2.2.2.2.2.2.2.2.2.2.2.1 rfl in_Planner (by decide) wd_206 (gR_spec e20) ?_
    refine g_iload_n (pc := 75) 1 dd_Planner_search_39.2.2.2.2.2.2.2.2.2.2.2.2.2.2.2.2.2.2.2.1 rfl rfl ?_
    obtain ⟨x21, e22, hf⟩ := bd1_e hf
    refine g_iald (pc := 76) dd_Planner_search_39.2.2.2.2.2.2.2.2.2.2.2.2.2.2.2.2.2.2.2.2.1 e22 ?_
    refine g_iload (pc := 77) 8 dd_Planner_search_39.2.2.2.2.2.2.2.2.2.2.2.2.2.2.2.2.2.2.2.2.2.1 rfl ?_
    refine g_isub (pc := 79) dd_Planner_search_39.2.2.2.2.2.2.2.2.2.2.2.2.2.2.2.2.2.2.2.2.2.2.1 ?_
    refine g_iload (pc := 80) 9 dd_Planner_search_39.2.2.2.2.2.2.2.2.2.2.2.2.2.2.2.2.2.2.2.2.2.2.2 rfl ?_
    refine g_isub (pc := 82) dd_Planner_search_82.1 ?_
    refine g_istore (pc := 83) [(10, .int ((x21 - b8) - b9)), (0, .ref b0), (1, .int b1), (2, .int b2), (3, .int b3), (4, .int b4), (5, .int b5), (6, .int b6), (7, .int b7), (8, .int b8), (9, .int b9)] dd_Planner_search_82.2.1 (Nat.le_of_ble_eq_true rfl) rfl ?_
    refine g_iload (pc := 85) 0 dd_Planner_search_82.2.2.1 rfl ?_
    refine g_iconst (pc := 87) (0 : Int32) dd_Planner_search_82.2.2.2.1 (by decide) ?_
    refine g_iload (pc := 88) 8 dd_Planner_search_82.2.2.2.2.1 rfl ?_
    obtain ⟨x25, h23, e24, hf⟩ := bd2_e hf
    refine g_callSN (pc := 90) "QuotaLaws" [.int ((x21 - b8) - b9), .int (0 : Int32), .int b7] (site_of si_Q_isWithin (by decide) (by decide)) wd_687 wd_332 dd_Planner_search_82.2.2.2.2.2.1 (Nat.le_of_ble_eq_true rfl) (fun z => absurd z si_na_Q_isWithin) (fun z => absurd z si_na_Q_isWithin) (fun z => absurd z si_na_Q_isWithin) (c_Q_isWithin e24) rfl ?_
    refine g_st [.int x25] rfl ?_
    refine g_ifeq (pc := 93) 192 dd_Planner_search_82.2.2.2.2.2.2.1 (by decide) (fun c58 => ?_) (fun c58 => ?_)
    · replace hf := (if_pos c58).symm.trans hf
      refine g_lv [1, 2, 3, 4, 5, 6, 7, 8, 9, 10] rfl ?_
      exact t_Planner_search_192 rec54 hrec54 rec64 hrec64 _ _ _ _ _ _ _ _ _ _ _ _ _  hf
    · replace hf := (if_neg c58).symm.trans hf
      refine g_iload (pc := 96) 9 dd_Planner_search_82.2.2.2.2.2.2.2.1 rfl ?_
      refine g_aload_n (pc := 98) 1 dd_Planner_search_82.2.2.2.2.2.2.2.2.1 rfl rfl ?_
      obtain ⟨x26, e27, hf⟩ := bd1_e hf
      refine g_get (pc := 99) (ci := 2) (kk := 5) dd_Planner_search_82.2.2.2.2.2.2.2.2.2.1 rfl in_Planner (by decide) wd_209 (gR_spec e27) ?_
      refine g_iload_n (pc := 102) 2 dd_Planner_search_82.2.2.2.2.2.2.2.2.2.2.1 rfl rfl ?_
      obtain ⟨x28, e29, hf⟩ := bd1_e hf
      refine g_iald (pc := 103) dd_Planner_search_82.2.2.2.2.2.2.2.2.2.2.2.1 e29 ?_
      refine g_imul (pc := 104) dd_Planner_search_82.2.2.2.2.2.2.2.2.2.2.2.2.1 ?_
      refine g_iload (pc := 105) 10 dd_Planner_search_82.2.2.2.2.2.2.2.2.2.2.2.2.2.1 rfl ?_
      refine g_aload_n (pc := 107) 1 dd_Planner_search_82.2.2.2.2.2.2.2.2.2.2.2.2.2.2.1 rfl rfl ?_
      obtain ⟨x30, e31, hf⟩ := bd1_e hf
      refine g_get (pc := 108) (ci := 2) (kk := 5) dd_Planner_search_82.2.2.2.2.2.2.2.2.2.2.2.2.2.2.2.1 rfl in_Planner (by decide) wd_209 (gR_spec e31) ?_
      refine g_iconst (pc := 111) (5 : Int32) dd_Planner_search_82.2.2.2.2.2.2.2.2.2.2.2.2.2.2.2.2.1 (by decide) ?_
      refine g_iload_n (pc := 112) 2 dd_Planner_search_82.2.2.2.2.2.2.2.2.2.2.2.2.2.2.2.2.2.1 rfl rfl ?_
      refine g_iadd (pc := 113) dd_Planner_search_82.2.2.2.2.2.2.2.2.2.2.2.2.2.2.2.2.2.2.1 ?_
      obtain ⟨x32, e33, hf⟩ := bd1_e hf
      refine g_iald (pc := 114) dd_Planner_search_82.2.2.2.2.2.2.2.2.2.2.2.2.2.2.2.2.2.2.2.1 e33 ?_
      refine g_imul (pc := 115) dd_Planner_search_82.2.2.2.2.2.2.2.2.2.2.2.2.2.2.2.2.2.2.2.2.1 ?_
      refine g_iadd (pc := 116) dd_Planner_search_82.2.2.2.2.2.2.2.2.2.2.2.2.2.2.2.2.2.2.2.2.2.1 ?_
      refine g_iload (pc := 117) 0 dd_Planner_search_82.2.2.2.2.2.2.2.2.2.2.2.2.2.2.2.2.2.2.2.2.2.2.1 rfl ?_
      refine g_aload_n (pc := 119) 1 dd_Planner_search_82.2.2.2.2.2.2.2.2.2.2.2.2.2.2.2.2.2.2.2.2.2.2.2 rfl rfl ?_
      obtain ⟨x34, e35, hf⟩ := bd1_e hf
      refine g_get (pc := 120) (ci := 2) (kk := 5) dd_Planner_search_120.1 rfl in_Planner (by decide) wd_209 (gR_spec e35) ?_
      refine g_bipush (pc := 123) (10 : Int32) dd_Planner_search_120.2.1 (by decide) ?_
      refine g_iload_n (pc := 125) 2 dd_Planner_search_120.2.2.1 rfl rfl ?_
      refine g_iadd (pc := 126) dd_Planner_search_120.2.2.2.1 ?_
      obtain ⟨x36, e37, hf⟩ := bd1_e hf
      refine g_iald (pc := 127) dd_Planner_search_120.2.2.2.2.1 e37 ?_
      refine g_imul (pc := 128) dd_Planner_search_120.2.2.2.2.2.1 ?_
      refine g_iadd (pc := 129) dd_Planner_search_120.2.2.2.2.2.2.1 ?_
      refine g_aload_n (pc := 130) 1 dd_Planner_search_120.2.2.2.2.2.2.2.1 rfl rfl ?_
      obtain ⟨x38, e39, hf⟩ := bd1_e hf
      refine g_get (pc := 131) (ci := 2) (kk := 7) dd_Planner_search_120.2.2.2.2.2.2.2.2.1 rfl in_Planner (by decide) wd_211 (gR_spec e39) ?_
      refine g_iload_n (pc := 134) 2 dd_Planner_search_120.2.2.2.2.2.2.2.2.2.1 rfl rfl ?_
      refine g_iconst (pc := 135) (1 : Int32) dd_Planner_search_120.2.2.2.2.2.2.2.2.2.2.1 (by decide) ?_
      refine g_iadd (pc := 136) dd_Planner_search_120.2.2.2.2.2.2.2.2.2.2.2.1 ?_
      refine g_iload_n (pc := 137) 3 dd_Planner_search_120.2.2.2.2.2.2.2.2.2.2.2.2.1 rfl rfl ?_
      refine g_iload (pc := 138) 9 dd_Planner_search_120.2.2.2.2.2.2.2.2.2.2.2.2.2.1 rfl ?_
      refine g_isub (pc := 140) dd_Planner_search_120.2.2.2.2.2.2.2.2.2.2.2.2.2.2.1 ?_
      refine g_iload_n (pc := 141) 4 dd_Planner_search_120.2.2.2.2.2.2.2.2.2.2.2.2.2.2.2.1 rfl rfl ?_
      refine g_iload (pc := 142) 10 dd_Planner_search_120.2.2.2.2.2.2.2.2.2.2.2.2.2.2.2.2.1 rfl ?_
      refine g_isub (pc := 144) dd_Planner_search_120.2.2.2.2.2.2.2.2.2.2.2.2.2.2.2.2.2.1 ?_
      obtain ⟨x42, h40, e41, hf⟩ := bd2_e hf
      refine g_callS (pc := 145) [.int (b1 + (1 : Int32)), .int (b2 - b8), .int (b3 - b9)] (site_of si_Planner_stateOf (by decide) (by decide)) wd_679 wd_680 dd_Planner_search_120.2.2.2.2.2.2.2.2.2.2.2.2.2.2.2.2.2.2.1 (Nat.le_of_ble_eq_true rfl) (fun z => absurd z si_na_Planner_stateOf) (fun z => absurd z si_na_Planner_stateOf) (fun z => absurd z si_na_Planner_stateOf) (c_Planner_stateOf e41) rfl ?_
      refine g_st [.int x42, .ref x38, .int (((b8 * x28) + (b9 * x32)) + (((x21 - b8) - b9) * x36))] rfl ?_
      obtain ⟨x43, e44, hf⟩ := bd1_e hf
      refine g_iald (pc := 148) dd_Planner_search_120.2.2.2.2.2.2.2.2.2.2.2.2.2.2.2.2.2.2.2.1 e44 ?_
      refine g_iadd (pc := 149) dd_Planner_search_120.2.2.2.2.2.2.2.2.2.2.2.2.2.2.2.2.2.2.2.2.1 ?_
      refine g_istore (pc := 150) [(11, .int ((((b8 * x28) + (b9 * x32)) + (((x21 - b8) - b9) * x36)) + x43)), (10, .int ((x21 - b8) - b9)), (0, .ref b0), (1, .int b1), (2, .int b2), (3, .int b3), (4, .int b4), (5, .int b5), (6, .int b6), (7, .int b7), (8, .int b8), (9, .int b9)] dd_Planner_search_120.2.2.2.2.2.2.2.2.2.2.2.2.2.2.2.2.2.2.2.2.2.1 (Nat.le_of_ble_eq_true rfl) rfl ?_
      refine g_iload (pc := 152) 0 dd_Planner_search_120.2.2.2.2.2.2.2.2.2.2.2.2.2.2.2.2.2.2.2.2.2.2.1 rfl ?_
      refine g_iload (pc := 154) 6 dd_Planner_search_120.2.2.2.2.2.2.2.2.2.2.2.2.2.2.2.2.2.2.2.2.2.2.2 rfl ?_
      refine g_icmpge (pc := 156) 192 dd_Planner_search_156.1 (by decide) (fun c57 => ?_) (fun c57 => ?_)
      · replace hf := (if_pos c57).symm.trans hf
        refine g_lv [2, 3, 4, 5, 6, 7, 8, 9, 10, 11] rfl ?_
        exact t_Planner_search_192 rec54 hrec54 rec64 hrec64 _ _ _ _ _ _ _ _ _ _ _ _ _  hf
      · replace hf := (if_neg c57).symm.trans hf
        refine g_iload (pc := 159) 0 dd_Planner_search_156.2.1 rfl ?_
        refine g_istore (pc := 161) [(4, .int ((((b8 * x28) + (b9 * x32)) + (((x21 - b8) - b9) * x36)) + x43)), (11, .int ((((b8 * x28) + (b9 * x32)) + (((x21 - b8) - b9) * x36)) + x43)), (10, .int ((x21 - b8) - b9)), (0, .ref b0), (1, .int b1), (2, .int b2), (3, .int b3), (5, .int b5), (6, .int b6), (7, .int b7), (8, .int b8), (9, .int b9)] dd_Planner_search_156.2.2.1 (Nat.le_of_ble_eq_true rfl) rfl ?_
        refine g_aload_n (pc := 163) 3 dd_Planner_search_156.2.2.2.1 rfl rfl ?_
        obtain ⟨x45, e46, hf⟩ := bd1_e hf
        refine g_get (pc := 164) (ci := 2) (kk := 6) dd_Planner_search_156.2.2.2.2.1 rfl in_Planner (by decide) wd_210 (gR_spec e46) ?_
        refine g_iload_n (pc := 167) 4 dd_Planner_search_156.2.2.2.2.2.1 rfl rfl ?_
        refine g_iload (pc := 168) 10 dd_Planner_search_156.2.2.2.2.2.2.1 rfl ?_
        obtain ⟨h47, e48, hf⟩ := bd1_e hf
        refine g_iast (pc := 170) dd_Planner_search_156.2.2.2.2.2.2.2.1 e48 ?_
        refine g_aload_n (pc := 171) 3 dd_Planner_search_156.2.2.2.2.2.2.2.2.1 rfl rfl ?_
        obtain ⟨x49, e50, hf⟩ := bd1_e hf
        refine g_get (pc := 172) (ci := 2) (kk := 6) dd_Planner_search_156.2.2.2.2.2.2.2.2.2.1 rfl in_Planner (by decide) wd_210 (gR_spec e50) ?_
        refine g_iconst (pc := 175) (5 : Int32) dd_Planner_search_156.2.2.2.2.2.2.2.2.2.2.1 (by decide) ?_
        refine g_iload_n (pc := 176) 4 dd_Planner_search_156.2.2.2.2.2.2.2.2.2.2.2.1 rfl rfl ?_
        refine g_iadd (pc := 177) dd_Planner_search_156.2.2.2.2.2.2.2.2.2.2.2.2.1 ?_
        refine g_iload (pc := 178) 11 dd_Planner_search_156.2.2.2.2.2.2.2.2.2.2.2.2.2.1 rfl ?_
        obtain ⟨h51, e52, hf⟩ := bd1_e hf
        refine g_iast (pc := 180) dd_Planner_search_156.2.2.2.2.2.2.2.2.2.2.2.2.2.2.1 e52 ?_
        refine g_aload_n (pc := 181) 3 dd_Planner_search_156.2.2.2.2.2.2.2.2.2.2.2.2.2.2.2.1 rfl rfl ?_
        obtain ⟨x53, e54, hf⟩ := bd1_e hf
        refine g_get (pc := 182) (ci := 2) (kk := 6) dd_Planner_search_156.2.2.2.2.2.2.2.2.2.2.2.2.2.2.2.2.1 rfl in_Planner (by decide) wd_210 (gR_spec e54) ?_
        refine g_bipush (pc := 185) (10 : Int32) dd_Planner_search_156.2.2.2.2.2.2.2.2.2.2.2.2.2.2.2.2.2.1 (by decide) ?_
        refine g_iload_n (pc := 187) 4 dd_Planner_search_156.2.2.2.2.2.2.2.2.2.2.2.2.2.2.2.2.2.2.1 rfl rfl ?_
        refine g_iadd (pc := 188) dd_Planner_search_156.2.2.2.2.2.2.2.2.2.2.2.2.2.2.2.2.2.2.2.1 ?_
        refine g_iload (pc := 189) 2 dd_Planner_search_156.2.2.2.2.2.2.2.2.2.2.2.2.2.2.2.2.2.2.2.2.1 rfl ?_
        obtain ⟨h55, e56, hf⟩ := bd1_e hf
        refine g_iast (pc := 191) dd_Planner_search_156.2.2.2.2.2.2.2.2.2.2.2.2.2.2.2.2.2.2.2.2.2.1 e56 ?_
        refine g_lv [3, 4, 5, 6, 0, 7, 8, 9, 10, 11] rfl ?_
        exact t_Planner_search_192 rec54 hrec54 rec64 hrec64 _ _ _ _ _ _ _ _ _ _ _ _ _  hf
def f_Planner_search_64 (rec54 : Nat → Int32 → Int32 → Int32 → Int32 → Int32 → Int32 → Int32 → Int32 → mH → Option (Int32 × mH)) : Nat → Nat → Int32 → Int32 → Int32 → Int32 → Int32 → Int32 → Int32 → Int32 → Int32 → mH → Option (Int32 × mH)
  | 0 => fun _ _ _ _ _ _ _ _ _ _ _ => none
  | n + 1 => f_Planner_search_64b rec54 (f_Planner_search_64 rec54 n)
theorem t_Planner_search_64 {sc : Nat × (Nat → Int32)} (rec54 : Nat → Int32 → Int32 → Int32 → Int32 → Int32 → Int32 → Int32 → Int32 → mH → Option (Int32 × mH)) (hrec54 : ∀ (b0 : Nat) (b1 : Int32) (b2 : Int32) (b3 : Int32) (b4 : Int32) (b5 : Int32) (b6 : Int32) (b7 : Int32) (b8 : Int32) (h : mH) (r : Int32) (h' : mH), rec54 b0 b1 b2 b3 b4 b5 b6 b7 b8 h = some (r, h') → G sc y_Planner_search prog_3_method_11_code 12 (some .int) 1 23 54 [(0, .ref b0), (1, .int b1), (2, .int b2), (3, .int b3), (4, .int b4), (5, .int b5), (6, .int b6), (7, .int b7), (8, .int b8)] [] h (some (.int r)) h') : ∀ (n : Nat) (b0 : Nat) (b1 : Int32) (b2 : Int32) (b3 : Int32) (b4 : Int32) (b5 : Int32) (b6 : Int32) (b7 : Int32) (b8 : Int32) (b9 : Int32) (h : mH) (r : Int32) (h' : mH) (hf : f_Planner_search_64 rec54 n b0 b1 b2 b3 b4 b5 b6 b7 b8 b9 h = some (r, h')), G sc y_Planner_search prog_3_method_11_code 12 (some .int) 1 23 64 [(0, .ref b0), (1, .int b1), (2, .int b2), (3, .int b3), (4, .int b4), (5, .int b5), (6, .int b6), (7, .int b7), (8, .int b8), (9, .int b9)] [] h (some (.int r)) h'
  | 0, _, _, _, _, _, _, _, _, _, _, _, _, _, hf => by cases hf
  | n + 1, _, _, _, _, _, _, _, _, _, _, _, _, _, hf => t_Planner_search_64b rec54 hrec54 (f_Planner_search_64 rec54 n) (t_Planner_search_64 rec54 hrec54 n) _ _ _ _ _ _ _ _ _ _ _ _ _ hf
def f_Planner_search_54b (rec54 : Nat → Int32 → Int32 → Int32 → Int32 → Int32 → Int32 → Int32 → Int32 → mH → Option (Int32 × mH)) (b0 : Nat) (b1 : Int32) (b2 : Int32) (b3 : Int32) (b4 : Int32) (b5 : Int32) (b6 : Int32) (b7 : Int32) (b8 : Int32) (h : mH) : Option (Int32 × mH) :=
  if b5 < b8 then
    some (b4, h)
  else
    f_Planner_search_64 rec54 FU b0 b1 b2 b3 b4 b5 b6 b7 b8 (0 : Int32) h
set_option maxRecDepth 20000 in
theorem t_Planner_search_54b {sc : Nat × (Nat → Int32)} (rec54 : Nat → Int32 → Int32 → Int32 → Int32 → Int32 → Int32 → Int32 → Int32 → mH → Option (Int32 × mH)) (hrec54 : ∀ (b0 : Nat) (b1 : Int32) (b2 : Int32) (b3 : Int32) (b4 : Int32) (b5 : Int32) (b6 : Int32) (b7 : Int32) (b8 : Int32) (h : mH) (r : Int32) (h' : mH), rec54 b0 b1 b2 b3 b4 b5 b6 b7 b8 h = some (r, h') → G sc y_Planner_search prog_3_method_11_code 12 (some .int) 1 23 54 [(0, .ref b0), (1, .int b1), (2, .int b2), (3, .int b3), (4, .int b4), (5, .int b5), (6, .int b6), (7, .int b7), (8, .int b8)] [] h (some (.int r)) h') (b0 : Nat) (b1 : Int32) (b2 : Int32) (b3 : Int32) (b4 : Int32) (b5 : Int32) (b6 : Int32) (b7 : Int32) (b8 : Int32) (h : mH) (r : Int32) (h' : mH) (hf : f_Planner_search_54b rec54 b0 b1 b2 b3 b4 b5 b6 b7 b8 h = some (r, h')) : G sc y_Planner_search prog_3_method_11_code 12 (some .int) 1 23 54 [(0, .ref b0), (1, .int b1), (2, .int b2), (3, .int b3), (4, .int b4), (5, .int b5), (6, .int b6), (7, .int b7), (8, .int b8)] [] h (some (.int r)) h' := by
  unfold f_Planner_search_54b at hf
  refine g_iload (pc := 54) 8 dd_Planner_search_39.2.2.2.2.2.2.2.2.2.1 rfl ?_
  refine g_iload (pc := 56) 5 dd_Planner_search_39.2.2.2.2.2.2.2.2.2.2.1 rfl ?_
  refine g_icmpgt (pc := 58) 204 dd_Planner_search_39.2.2.2.2.2.2.2.2.2.2.2.1 (by decide) (fun c18 => ?_) (fun c18 => ?_)
  · replace hf := (if_pos c18).symm.trans hf
    refine g_iload (pc := 204) 4 dd_Planner_search_198.2.2.1 rfl ?_
    obtain ⟨rfl, rfl⟩ := ret2 hf
    exact g_iret (pc := 206) rfl dd_Planner_search_198.2.2.2
  · replace hf := (if_neg c18).symm.trans hf
    refine g_iconst (pc := 61) (0 : Int32) dd_Planner_search_39.2.2.2.2.2.2.2.2.2.2.2.2.1 (by decide) ?_
    refine g_istore (pc := 62) [(9, .int (0 : Int32)), (0, .ref b0), (1, .int b1), (2, .int b2), (3, .int b3), (4, .int b4), (5, .int b5), (6, .int b6), (7, .int b7), (8, .int b8)] dd_Planner_search_39.2.2.2.2.2.2.2.2.2.2.2.2.2.1 (Nat.le_of_ble_eq_true rfl) rfl ?_
    refine g_lv [1, 2, 3, 4, 5, 6, 7, 8, 9, 0] rfl ?_
    exact t_Planner_search_64 rec54 hrec54 FU _ _ _ _ _ _ _ _ _ _ _ _ _  hf
def f_Planner_search_54  : Nat → Nat → Int32 → Int32 → Int32 → Int32 → Int32 → Int32 → Int32 → Int32 → mH → Option (Int32 × mH)
  | 0 => fun _ _ _ _ _ _ _ _ _ _ => none
  | n + 1 => f_Planner_search_54b  (f_Planner_search_54  n)
theorem t_Planner_search_54 {sc : Nat × (Nat → Int32)}  : ∀ (n : Nat) (b0 : Nat) (b1 : Int32) (b2 : Int32) (b3 : Int32) (b4 : Int32) (b5 : Int32) (b6 : Int32) (b7 : Int32) (b8 : Int32) (h : mH) (r : Int32) (h' : mH) (hf : f_Planner_search_54  n b0 b1 b2 b3 b4 b5 b6 b7 b8 h = some (r, h')), G sc y_Planner_search prog_3_method_11_code 12 (some .int) 1 23 54 [(0, .ref b0), (1, .int b1), (2, .int b2), (3, .int b3), (4, .int b4), (5, .int b5), (6, .int b6), (7, .int b7), (8, .int b8)] [] h (some (.int r)) h'
  | 0, _, _, _, _, _, _, _, _, _, _, _, _, hf => by cases hf
  | n + 1, _, _, _, _, _, _, _, _, _, _, _, _, hf => t_Planner_search_54b  (f_Planner_search_54  n) (t_Planner_search_54  n) _ _ _ _ _ _ _ _ _ _ _ _ hf
def f_Planner_search_0  (a0 : Nat) (a1 : Int32) (a2 : Int32) (a3 : Int32) (h : mH) : Option (Int32 × mH) :=
  bd1 (gR h a0 2 4) fun x1 =>
  bd1 (aI h 0 x1 a1) fun x3 =>
  bd1 (gR h a0 2 4) fun x5 =>
  bd1 (aI h 0 x5 ((5 : Int32) + a1)) fun x7 =>
  bd1 (gR h a0 2 4) fun x9 =>
  bd1 (aI h 0 x9 ((10 : Int32) + a1)) fun x11 =>
  bd1 (kC h a0 2) fun _ =>
  bd2 (f_Planner_leftToLast a0 a1 a2 a3 h) fun x17 h15 =>
  f_Planner_search_54  FU a0 a1 a2 a3 (1000000 : Int32) (if a2 < x3 then a2 else x3) (if a3 < x7 then a3 else x7) (if x17 < x11 then x17 else x11) (0 : Int32) h15
set_option maxRecDepth 20000 in
theorem t_Planner_search_0 {sc : Nat × (Nat → Int32)}  (a0 : Nat) (a1 : Int32) (a2 : Int32) (a3 : Int32) (h : mH) (r : Int32) (h' : mH) (hf : f_Planner_search_0  a0 a1 a2 a3 h = some (r, h')) : G sc y_Planner_search prog_3_method_11_code 12 (some .int) 1 23 0 [(0, .ref a0), (1, .int a1), (2, .int a2), (3, .int a3)] [] h (some (.int r)) h' := by
  unfold f_Planner_search_0 at hf
  refine g_ldc (pc := 0) (1000000 : Int32) dd_Planner_search_0.1 wd_674 ?_
  refine g_istore (pc := 2) [(4, .int (1000000 : Int32)), (0, .ref a0), (1, .int a1), (2, .int a2), (3, .int a3)] dd_Planner_search_0.2.1 (Nat.le_of_ble_eq_true rfl) rfl ?_
  refine g_aload_n (pc := 4) 1 dd_Planner_search_0.2.2.1 rfl rfl ?_
  obtain ⟨x1, e2, hf⟩ := bd1_e hf
  refine g_get (pc := 5) (ci := 2) (kk := 4) dd_Planner_search_0.2.2.2.1 rfl in_Planner (by decide) wd_208 (gR_spec e2) ?_
  refine g_iload_n (pc := 8) 2 dd_Planner_search_0.2.2.2.2.1 rfl rfl ?_
  obtain ⟨x3, e4, hf⟩ := bd1_e hf
  refine g_iald (pc := 9) dd_Planner_search_0.2.2.2.2.2.1 e4 ?_
  refine g_iload_n (pc := 10) 3 dd_Planner_search_0.2.2.2.2.2.2.1 rfl rfl ?_
  refine g_mmin (pc := 11) dd_Planner_search_0.2.2.2.2.2.2.2.1 wd_686 wd_564 wd_16 wd_565 (by decide) (Nat.le_of_ble_eq_true rfl) ?_
  refine g_istore (pc := 14) [(5, .int (if a2 < x3 then a2 else x3)), (4, .int (1000000 : Int32)), (0, .ref a0), (1, .int a1), (2, .int a2), (3, .int a3)] dd_Planner_search_0.2.2.2.2.2.2.2.2.1 (Nat.le_of_ble_eq_true rfl) rfl ?_
  refine g_aload_n (pc := 16) 2 dd_Planner_search_0.2.2.2.2.2.2.2.2.2.1 rfl rfl ?_
  obtain ⟨x5, e6, hf⟩ := bd1_e hf
  refine g_get (pc := 17) (ci := 2) (kk := 4) dd_Planner_search_0.2.2.2.2.2.2.2.2.2.2.1 rfl in_Planner (by decide) wd_208 (gR_spec e6) ?_
  refine g_iconst (pc := 20) (5 : Int32) dd_Planner_search_0.2.2.2.2.2.2.2.2.2.2.2.1 (by decide) ?_
  refine g_iload_n (pc := 21) 3 dd_Planner_search_0.2.2.2.2.2.2.2.2.2.2.2.2.1 rfl rfl ?_
  refine g_iadd (pc := 22) dd_Planner_search_0.2.2.2.2.2.2.2.2.2.2.2.2.2.1 ?_
  obtain ⟨x7, e8, hf⟩ := bd1_e hf
  refine g_iald (pc := 23) dd_Planner_search_0.2.2.2.2.2.2.2.2.2.2.2.2.2.2.1 e8 ?_
  refine g_iload_n (pc := 24) 5 dd_Planner_search_0.2.2.2.2.2.2.2.2.2.2.2.2.2.2.2.1 rfl rfl ?_
  refine g_mmin (pc := 25) dd_Planner_search_0.2.2.2.2.2.2.2.2.2.2.2.2.2.2.2.2.1 wd_686 wd_564 wd_16 wd_565 (by decide) (Nat.le_of_ble_eq_true rfl) ?_
  refine g_istore (pc := 28) [(6, .int (if a3 < x7 then a3 else x7)), (5, .int (if a2 < x3 then a2 else x3)), (4, .int (1000000 : Int32)), (0, .ref a0), (1, .int a1), (2, .int a2), (3, .int a3)] dd_Planner_search_0.2.2.2.2.2.2.2.2.2.2.2.2.2.2.2.2.2.1 (Nat.le_of_ble_eq_true rfl) rfl ?_
  refine g_aload_n (pc := 30) 3 dd_Planner_search_0.2.2.2.2.2.2.2.2.2.2.2.2.2.2.2.2.2.2.1 rfl rfl ?_
  obtain ⟨x9, e10, hf⟩ := bd1_e hf
  refine g_get (pc := 31) (ci := 2) (kk := 4) dd_Planner_search_0.2.2.2.2.2.2.2.2.2.2.2.2.2.2.2.2.2.2.2.1 rfl in_Planner (by decide) wd_208 (gR_spec e10) ?_
  refine g_bipush (pc := 34) (10 : Int32) dd_Planner_search_0.2.2.2.2.2.2.2.2.2.2.2.2.2.2.2.2.2.2.2.2.1 (by decide) ?_
  refine g_iload_n (pc := 36) 4 dd_Planner_search_0.2.2.2.2.2.2.2.2.2.2.2.2.2.2.2.2.2.2.2.2.2.1 rfl rfl ?_
  refine g_iadd (pc := 37) dd_Planner_search_0.2.2.2.2.2.2.2.2.2.2.2.2.2.2.2.2.2.2.2.2.2.2.1 ?_
  obtain ⟨x11, e12, hf⟩ := bd1_e hf
  refine g_iald (pc := 38) dd_Planner_search_0.2.2.2.2.2.2.2.2.2.2.2.2.2.2.2.2.2.2.2.2.2.2.2 e12 ?_
  refine g_aload_n (pc := 39) 3 dd_Planner_search_39.1 rfl rfl ?_
  refine g_iload_n (pc := 40) 4 dd_Planner_search_39.2.1 rfl rfl ?_
  refine g_iload_n (pc := 41) 5 dd_Planner_search_39.2.2.1 rfl rfl ?_
  refine g_iload_n (pc := 42) 6 dd_Planner_search_39.2.2.2.1 rfl rfl ?_
  obtain ⟨u14, e13, hf⟩ := bd1_e hf
  obtain ⟨x17, h15, e16, hf⟩ := bd2_e hf
  refine g_callV (pc := 43) (ci := 2) [.int a1, .int a2, .int a3] (site_of si_Planner_leftToLast (by decide) (by decide)) wd_675 wd_677 wp_17 dd_Planner_search_39.2.2.2.2.1 rfl e13 (Nat.le_of_ble_eq_true rfl) (fun z => absurd z si_na_Planner_leftToLast) (fun z => absurd z si_na_Planner_leftToLast) (fun z => absurd z si_na_Planner_leftToLast) (c_Planner_leftToLast e16) rfl ?_
  refine g_st [.int x17, .int x11] rfl ?_
  refine g_mmin (pc := 46) dd_Planner_search_39.2.2.2.2.2.1 wd_686 wd_564 wd_16 wd_565 (by decide) (Nat.le_of_ble_eq_true rfl) ?_
  refine g_istore (pc := 49) [(7, .int (if x17 < x11 then x17 else x11)), (6, .int (if a3 < x7 then a3 else x7)), (5, .int (if a2 < x3 then a2 else x3)), (4, .int (1000000 : Int32)), (0, .ref a0), (1, .int a1), (2, .int a2), (3, .int a3)] dd_Planner_search_39.2.2.2.2.2.2.1 (Nat.le_of_ble_eq_true rfl) rfl ?_
  refine g_iconst (pc := 51) (0 : Int32) dd_Planner_search_39.2.2.2.2.2.2.2.1 (by decide) ?_
  refine g_istore (pc := 52) [(8, .int (0 : Int32)), (7, .int (if x17 < x11 then x17 else x11)), (6, .int (if a3 < x7 then a3 else x7)), (5, .int (if a2 < x3 then a2 else x3)), (4, .int (1000000 : Int32)), (0, .ref a0), (1, .int a1), (2, .int a2), (3, .int a3)] dd_Planner_search_39.2.2.2.2.2.2.2.2.1 (Nat.le_of_ble_eq_true rfl) rfl ?_
  refine g_lv [5, 6, 7, 8, 4, 3, 2, 1, 0] rfl ?_
  exact t_Planner_search_54  FU _ _ _ _ _ _ _ _ _ _ _ _  hf
def f_Planner_search (a0 : Nat) (a1 : Int32) (a2 : Int32) (a3 : Int32) (h : mH) : Option (Int32 × mH) := f_Planner_search_0 a0 a1 a2 a3 h
theorem c_Planner_search {sc : Nat × (Nat → Int32)} {a0 : Nat} {a1 : Int32} {a2 : Int32} {a3 : Int32} {h : mH} {r : Int32} {h' : mH} (hf : f_Planner_search a0 a1 a2 a3 h = some (r, h')) : MM sc y_Planner_search prog_3_method_11_code 12 (some .int) 1 23 [.ref a0, .int a1, .int a2, .int a3] h (some (.int r)) h' :=
  mm_of_G si_pn_Planner (Nat.le_of_ble_eq_true rfl) (t_Planner_search_0 _ _ _ _ _ _ _ hf)
/-! Planner leastHarm ()I -/
set_option maxRecDepth 100000 in
theorem dd_Planner_leastHarm_0 : (decode prog_3_method_7_code 0 = .ok (.aload_n 0, 1)) ∧ (decode prog_3_method_7_code 1 = .ok (.getfield 30, 3)) ∧ (decode prog_3_method_7_code 4 = .ok (.ldc 89, 2)) ∧ (decode prog_3_method_7_code 6 = .ok (.invokestatic 40, 3)) ∧ (decode prog_3_method_7_code 9 = .ok (.aload_n 0, 1)) ∧ (decode prog_3_method_7_code 10 = .ok (.getfield 39, 3)) ∧ (decode prog_3_method_7_code 13 = .ok (.istore_n 1, 1)) ∧ (decode prog_3_method_7_code 14 = .ok (.iload_n 1, 1)) ∧ (decode prog_3_method_7_code 15 = .ok (.ifCond .lt 85, 3)) ∧ (decode prog_3_method_7_code 18 = .ok (.iconst 0, 1)) ∧ (decode prog_3_method_7_code 19 = .ok (.istore_n 2, 1)) ∧ (decode prog_3_method_7_code 20 = .ok (.iload_n 2, 1)) ∧ (decode prog_3_method_7_code 21 = .ok (.aload_n 0, 1)) ∧ (decode prog_3_method_7_code 22 = .ok (.getfield 9, 3)) ∧ (decode prog_3_method_7_code 25 = .ok (.iconst 0, 1)) ∧ (decode prog_3_method_7_code 26 = .ok (.iaload, 1)) ∧ (decode prog_3_method_7_code 27 = .ok (.if_icmp .gt 67, 3)) ∧ (decode prog_3_method_7_code 30 = .ok (.iconst 0, 1)) ∧ (decode prog_3_method_7_code 31 = .ok (.istore_n 3, 1)) ∧ (decode prog_3_method_7_code 32 = .ok (.iload_n 3, 1)) ∧ (decode prog_3_method_7_code 33 = .ok (.aload_n 0, 1)) ∧ (decode prog_3_method_7_code 34 = .ok (.getfield 9, 3)) ∧ (decode prog_3_method_7_code 37 = .ok (.iconst 1, 1)) ∧ (decode prog_3_method_7_code 38 = .ok (.iaload, 1)) := by
  have h : List.drop 0 prog_3_method_7_code.data.toList = 0x2a :: _ := rfl
  refine ⟨zq_k_n 42 h rfl (zq_o_42 _), ?_⟩
  replace h := zq_nx1 (q := 1) h rfl
  refine ⟨zq_k_u2 180 (fun z => .getfield z) 30 h rfl (zq_o_180 _) (by decide +kernel), ?_⟩
  replace h := zq_nx3 (q := 4) h rfl
  refine ⟨zq_k_u1 18 (fun z => .ldc z) 89 h rfl (zq_o_18 _) (by decide +kernel), ?_⟩
  replace h := zq_nx2 (q := 6) h rfl
  refine ⟨zq_k_u2 184 (fun z => .invokestatic z) 40 h rfl (zq_o_184 _) (by decide +kernel), ?_⟩
  replace h := zq_nx3 (q := 9) h rfl
  refine ⟨zq_k_n 42 h rfl (zq_o_42 _), ?_⟩
  replace h := zq_nx1 (q := 10) h rfl
  refine ⟨zq_k_u2 180 (fun z => .getfield z) 39 h rfl (zq_o_180 _) (by decide +kernel), ?_⟩
  replace h := zq_nx3 (q := 13) h rfl
  refine ⟨zq_k_n 60 h rfl (zq_o_60 _), ?_⟩
  replace h := zq_nx1 (q := 14) h rfl
  refine ⟨zq_k_n 27 h rfl (zq_o_27 _), ?_⟩
  replace h := zq_nx1 (q := 15) h rfl
  refine ⟨zq_k_s2 155 (fun z => .ifCond .lt z) 85 h rfl (zq_o_155 _) (by decide +kernel), ?_⟩
  replace h := zq_nx3 (q := 18) h rfl
  refine ⟨zq_k_n 3 h rfl (zq_o_3 _), ?_⟩
  replace h := zq_nx1 (q := 19) h rfl
  refine ⟨zq_k_n 61 h rfl (zq_o_61 _), ?_⟩
  replace h := zq_nx1 (q := 20) h rfl
  refine ⟨zq_k_n 28 h rfl (zq_o_28 _), ?_⟩
  replace h := zq_nx1 (q := 21) h rfl
  refine ⟨zq_k_n 42 h rfl (zq_o_42 _), ?_⟩
  replace h := zq_nx1 (q := 22) h rfl
  refine ⟨zq_k_u2 180 (fun z => .getfield z) 9 h rfl (zq_o_180 _) (by decide +kernel), ?_⟩
  replace h := zq_nx3 (q := 25) h rfl
  refine ⟨zq_k_n 3 h rfl (zq_o_3 _), ?_⟩
  replace h := zq_nx1 (q := 26) h rfl
  refine ⟨zq_k_n 46 h rfl (zq_o_46 _), ?_⟩
  replace h := zq_nx1 (q := 27) h rfl
  refine ⟨zq_k_s2 163 (fun z => .if_icmp .gt z) 67 h rfl (zq_o_163 _) (by decide +kernel), ?_⟩
  replace h := zq_nx3 (q := 30) h rfl
  refine ⟨zq_k_n 3 h rfl (zq_o_3 _), ?_⟩
  replace h := zq_nx1 (q := 31) h rfl
  refine ⟨zq_k_n 62 h rfl (zq_o_62 _), ?_⟩
  replace h := zq_nx1 (q := 32) h rfl
  refine ⟨zq_k_n 29 h rfl (zq_o_29 _), ?_⟩
  replace h := zq_nx1 (q := 33) h rfl
  refine ⟨zq_k_n 42 h rfl (zq_o_42 _), ?_⟩
  replace h := zq_nx1 (q := 34) h rfl
  refine ⟨zq_k_u2 180 (fun z => .getfield z) 9 h rfl (zq_o_180 _) (by decide +kernel), ?_⟩
  replace h := zq_nx3 (q := 37) h rfl
  refine ⟨zq_k_n 4 h rfl (zq_o_4 _), ?_⟩
  replace h := zq_nx1 (q := 38) h rfl
  exact zq_k_n 46 h rfl (zq_o_46 _)
set_option maxRecDepth 100000 in
theorem dd_Planner_leastHarm_39 : (decode prog_3_method_7_code 39 = .ok (.if_icmp .gt 49, 3)) ∧ (decode prog_3_method_7_code 42 = .ok (.aload_n 0, 1)) ∧ (decode prog_3_method_7_code 43 = .ok (.iload_n 1, 1)) ∧ (decode prog_3_method_7_code 44 = .ok (.iload_n 2, 1)) ∧ (decode prog_3_method_7_code 45 = .ok (.iload_n 3, 1)) ∧ (decode prog_3_method_7_code 46 = .ok (.invokevirtual 90, 3)) ∧ (decode prog_3_method_7_code 49 = .ok (.ifCond .lt 33, 3)) ∧ (decode prog_3_method_7_code 52 = .ok (.aload_n 0, 1)) ∧ (decode prog_3_method_7_code 53 = .ok (.getfield 30, 3)) ∧ (decode prog_3_method_7_code 56 = .ok (.iload_n 1, 1)) ∧ (decode prog_3_method_7_code 57 = .ok (.iload_n 2, 1)) ∧ (decode prog_3_method_7_code 58 = .ok (.iload_n 3, 1)) ∧ (decode prog_3_method_7_code 59 = .ok (.invokestatic 94, 3)) ∧ (decode prog_3_method_7_code 62 = .ok (.iload_n 1, 1)) ∧ (decode prog_3_method_7_code 63 = .ok (.aload_n 0, 1)) ∧ (decode prog_3_method_7_code 64 = .ok (.getfield 39, 3)) ∧ (decode prog_3_method_7_code 67 = .ok (.if_icmp .ne 7, 3)) ∧ (decode prog_3_method_7_code 70 = .ok (.iconst 0, 1)) ∧ (decode prog_3_method_7_code 71 = .ok (.goto 10, 3)) ∧ (decode prog_3_method_7_code 74 = .ok (.aload_n 0, 1)) ∧ (decode prog_3_method_7_code 75 = .ok (.iload_n 1, 1)) ∧ (decode prog_3_method_7_code 76 = .ok (.iload_n 2, 1)) ∧ (decode prog_3_method_7_code 77 = .ok (.iload_n 3, 1)) ∧ (decode prog_3_method_7_code 78 = .ok (.invokevirtual 97, 3)) := by
  have h : List.drop 39 prog_3_method_7_code.data.toList = 0xa3 :: _ := rfl
  refine ⟨zq_k_s2 163 (fun z => .if_icmp .gt z) 49 h rfl (zq_o_163 _) (by decide +kernel), ?_⟩
  replace h := zq_nx3 (q := 42) h rfl
  refine ⟨zq_k_n 42 h rfl (zq_o_42 _), ?_⟩
  replace h := zq_nx1 (q := 43) h rfl
  refine ⟨zq_k_n 27 h rfl (zq_o_27 _), ?_⟩
  replace h := zq_nx1 (q := 44) h rfl
  refine ⟨zq_k_n 28 h rfl (zq_o_28 _), ?_⟩
  replace h := zq_nx1 (q := 45) h rfl
  refine ⟨zq_k_n 29 h rfl (zq_o_29 _), ?_⟩
  replace h := zq_nx1 (q := 46) h rfl
  refine ⟨zq_k_u2 182 (fun z => .invokevirtual z) 90 h rfl (zq_o_182 _) (by decide +kernel), ?_⟩
  replace h := zq_nx3 (q := 49) h rfl
  refine ⟨zq_k_s2 155 (fun z => .ifCond .lt z) 33 h rfl (zq_o_155 _) (by decide +kernel), ?_⟩
  replace h := zq_nx3 (q := 52) h rfl
  refine ⟨zq_k_n 42 h rfl (zq_o_42 _), ?_⟩
  replace h := zq_nx1 (q := 53) h rfl
  refine ⟨zq_k_u2 180 (fun z => .getfield z) 30 h rfl (zq_o_180 _) (by decide +kernel), ?_⟩
  replace h := zq_nx3 (q := 56) h rfl
  refine ⟨zq_k_n 27 h rfl (zq_o_27 _), ?_⟩
  replace h := zq_nx1 (q := 57) h rfl
  refine ⟨zq_k_n 28 h rfl (zq_o_28 _), ?_⟩
  replace h := zq_nx1 (q := 58) h rfl
  refine ⟨zq_k_n 29 h rfl (zq_o_29 _), ?_⟩
  replace h := zq_nx1 (q := 59) h rfl
  refine ⟨zq_k_u2 184 (fun z => .invokestatic z) 94 h rfl (zq_o_184 _) (by decide +kernel), ?_⟩
  replace h := zq_nx3 (q := 62) h rfl
  refine ⟨zq_k_n 27 h rfl (zq_o_27 _), ?_⟩
  replace h := zq_nx1 (q := 63) h rfl
  refine ⟨zq_k_n 42 h rfl (zq_o_42 _), ?_⟩
  replace h := zq_nx1 (q := 64) h rfl
  refine ⟨zq_k_u2 180 (fun z => .getfield z) 39 h rfl (zq_o_180 _) (by decide +kernel), ?_⟩
  replace h := zq_nx3 (q := 67) h rfl
  refine ⟨zq_k_s2 160 (fun z => .if_icmp .ne z) 7 h rfl (zq_o_160 _) (by decide +kernel), ?_⟩
  replace h := zq_nx3 (q := 70) h rfl
  refine ⟨zq_k_n 3 h rfl (zq_o_3 _), ?_⟩
  replace h := zq_nx1 (q := 71) h rfl
  refine ⟨zq_k_s2 167 (fun z => .goto z) 10 h rfl (zq_o_167 _) (by decide +kernel), ?_⟩
  replace h := zq_nx3 (q := 74) h rfl
  refine ⟨zq_k_n 42 h rfl (zq_o_42 _), ?_⟩
  replace h := zq_nx1 (q := 75) h rfl
  refine ⟨zq_k_n 27 h rfl (zq_o_27 _), ?_⟩
  replace h := zq_nx1 (q := 76) h rfl
  refine ⟨zq_k_n 28 h rfl (zq_o_28 _), ?_⟩
  replace h := zq_nx1 (q := 77) h rfl
  refine ⟨zq_k_n 29 h rfl (zq_o_29 _), ?_⟩
  replace h := zq_nx1 (q := 78) h rfl
  exact zq_k_u2 182 (fun z => .invokevirtual z) 97 h rfl (zq_o_182 _) (by decide +kernel)
set_option maxRecDepth 100000 in
theorem dd_Planner_leastHarm_81 : (decode prog_3_method_7_code 81 = .ok (.iastore, 1)) ∧ (decode prog_3_method_7_code 82 = .ok (.iinc 3 1, 3)) ∧ (decode prog_3_method_7_code 85 = .ok (.goto (-53), 3)) ∧ (decode prog_3_method_7_code 88 = .ok (.iinc 2 1, 3)) ∧ (decode prog_3_method_7_code 91 = .ok (.goto (-71), 3)) ∧ (decode prog_3_method_7_code 94 = .ok (.iinc 1 (-1), 3)) ∧ (decode prog_3_method_7_code 97 = .ok (.goto (-83), 3)) ∧ (decode prog_3_method_7_code 100 = .ok (.aload_n 0, 1)) ∧ (decode prog_3_method_7_code 101 = .ok (.getfield 30, 3)) ∧ (decode prog_3_method_7_code 104 = .ok (.iconst 0, 1)) ∧ (decode prog_3_method_7_code 105 = .ok (.aload_n 0, 1)) ∧ (decode prog_3_method_7_code 106 = .ok (.getfield 9, 3)) ∧ (decode prog_3_method_7_code 109 = .ok (.iconst 0, 1)) ∧ (decode prog_3_method_7_code 110 = .ok (.iaload, 1)) ∧ (decode prog_3_method_7_code 111 = .ok (.aload_n 0, 1)) ∧ (decode prog_3_method_7_code 112 = .ok (.getfield 9, 3)) ∧ (decode prog_3_method_7_code 115 = .ok (.iconst 1, 1)) ∧ (decode prog_3_method_7_code 116 = .ok (.iaload, 1)) ∧ (decode prog_3_method_7_code 117 = .ok (.invokestatic 94, 3)) ∧ (decode prog_3_method_7_code 120 = .ok (.iaload, 1)) ∧ (decode prog_3_method_7_code 121 = .ok (.istore_n 1, 1)) ∧ (decode prog_3_method_7_code 122 = .ok (.iload_n 1, 1)) ∧ (decode prog_3_method_7_code 123 = .ok (.ldc 89, 2)) ∧ (decode prog_3_method_7_code 125 = .ok (.if_icmp .ge 7, 3)) := by
  have h : List.drop 81 prog_3_method_7_code.data.toList = 0x4f :: _ := rfl
  refine ⟨zq_k_n 79 h rfl (zq_o_79 _), ?_⟩
  replace h := zq_nx1 (q := 82) h rfl
  refine ⟨zq_k_iinc 3 1 h rfl (zq_o_132 _) (by decide +kernel) (by decide +kernel), ?_⟩
  replace h := zq_nx3 (q := 85) h rfl
  refine ⟨zq_k_s2 167 (fun z => .goto z) (-53) h rfl (zq_o_167 _) (by decide +kernel), ?_⟩
  replace h := zq_nx3 (q := 88) h rfl
  refine ⟨zq_k_iinc 2 1 h rfl (zq_o_132 _) (by decide +kernel) (by decide +kernel), ?_⟩
  replace h := zq_nx3 (q := 91) h rfl
  refine ⟨zq_k_s2 167 (fun z => .goto z) (-71) h rfl (zq_o_167 _) (by decide +kernel), ?_⟩
  replace h := zq_nx3 (q := 94) h rfl
  refine ⟨zq_k_iinc 1 (-1) h rfl (zq_o_132 _) (by decide +kernel) (by decide +kernel), ?_⟩
  replace h := zq_nx3 (q := 97) h rfl
  refine ⟨zq_k_s2 167 (fun z => .goto z) (-83) h rfl (zq_o_167 _) (by decide +kernel), ?_⟩
  replace h := zq_nx3 (q := 100) h rfl
  refine ⟨zq_k_n 42 h rfl (zq_o_42 _), ?_⟩
  replace h := zq_nx1 (q := 101) h rfl
  refine ⟨zq_k_u2 180 (fun z => .getfield z) 30 h rfl (zq_o_180 _) (by decide +kernel), ?_⟩
  replace h := zq_nx3 (q := 104) h rfl
  refine ⟨zq_k_n 3 h rfl (zq_o_3 _), ?_⟩
  replace h := zq_nx1 (q := 105) h rfl
  refine ⟨zq_k_n 42 h rfl (zq_o_42 _), ?_⟩
  replace h := zq_nx1 (q := 106) h rfl
  refine ⟨zq_k_u2 180 (fun z => .getfield z) 9 h rfl (zq_o_180 _) (by decide +kernel), ?_⟩
  replace h := zq_nx3 (q := 109) h rfl
  refine ⟨zq_k_n 3 h rfl (zq_o_3 _), ?_⟩
  replace h := zq_nx1 (q := 110) h rfl
  refine ⟨zq_k_n 46 h rfl (zq_o_46 _), ?_⟩
  replace h := zq_nx1 (q := 111) h rfl
  refine ⟨zq_k_n 42 h rfl (zq_o_42 _), ?_⟩
  replace h := zq_nx1 (q := 112) h rfl
  refine ⟨zq_k_u2 180 (fun z => .getfield z) 9 h rfl (zq_o_180 _) (by decide +kernel), ?_⟩
  replace h := zq_nx3 (q := 115) h rfl
  refine ⟨zq_k_n 4 h rfl (zq_o_4 _), ?_⟩
  replace h := zq_nx1 (q := 116) h rfl
  refine ⟨zq_k_n 46 h rfl (zq_o_46 _), ?_⟩
  replace h := zq_nx1 (q := 117) h rfl
  refine ⟨zq_k_u2 184 (fun z => .invokestatic z) 94 h rfl (zq_o_184 _) (by decide +kernel), ?_⟩
  replace h := zq_nx3 (q := 120) h rfl
  refine ⟨zq_k_n 46 h rfl (zq_o_46 _), ?_⟩
  replace h := zq_nx1 (q := 121) h rfl
  refine ⟨zq_k_n 60 h rfl (zq_o_60 _), ?_⟩
  replace h := zq_nx1 (q := 122) h rfl
  refine ⟨zq_k_n 27 h rfl (zq_o_27 _), ?_⟩
  replace h := zq_nx1 (q := 123) h rfl
  refine ⟨zq_k_u1 18 (fun z => .ldc z) 89 h rfl (zq_o_18 _) (by decide +kernel), ?_⟩
  replace h := zq_nx2 (q := 125) h rfl
  exact zq_k_s2 162 (fun z => .if_icmp .ge z) 7 h rfl (zq_o_162 _) (by decide +kernel)
set_option maxRecDepth 100000 in
theorem dd_Planner_leastHarm_128 : (decode prog_3_method_7_code 128 = .ok (.iload_n 1, 1)) ∧ (decode prog_3_method_7_code 129 = .ok (.goto 5, 3)) ∧ (decode prog_3_method_7_code 132 = .ok (.bipush (-4), 2)) ∧ (decode prog_3_method_7_code 134 = .ok (.ireturn, 1)) := by
  have h : List.drop 128 prog_3_method_7_code.data.toList = 0x1b :: _ := rfl
  refine ⟨zq_k_n 27 h rfl (zq_o_27 _), ?_⟩
  replace h := zq_nx1 (q := 129) h rfl
  refine ⟨zq_k_s2 167 (fun z => .goto z) 5 h rfl (zq_o_167 _) (by decide +kernel), ?_⟩
  replace h := zq_nx3 (q := 132) h rfl
  refine ⟨zq_k_s1 16 (fun z => .bipush z) (-4) h rfl (zq_o_16 _) (by decide +kernel), ?_⟩
  replace h := zq_nx2 (q := 134) h rfl
  exact zq_k_n 172 h rfl (zq_o_172 _)
def f_Planner_leastHarm_82 (rec14 : Nat → Int32 → mH → Option (Int32 × mH)) (rec20 : Nat → Int32 → Int32 → mH → Option (Int32 × mH)) (rec32 : Nat → Int32 → Int32 → Int32 → mH → Option (Int32 × mH)) (b0 : Nat) (b1 : Int32) (b2 : Int32) (b3 : Int32) (h : mH) : Option (Int32 × mH) :=
  rec32 b0 b1 b2 (b3 + (1 : Int32)) h
set_option maxRecDepth 20000 in
theorem t_Planner_leastHarm_82 {sc : Nat × (Nat → Int32)} (rec14 : Nat → Int32 → mH → Option (Int32 × mH)) (hrec14 : ∀ (b0 : Nat) (b1 : Int32) (h : mH) (r : Int32) (h' : mH), rec14 b0 b1 h = some (r, h') → G sc y_Planner_leastHarm prog_3_method_7_code 4 (some .int) 2 54 14 [(0, .ref b0), (1, .int b1)] [] h (some (.int r)) h') (rec20 : Nat → Int32 → Int32 → mH → Option (Int32 × mH)) (hrec20 : ∀ (b0 : Nat) (b1 : Int32) (b2 : Int32) (h : mH) (r : Int32) (h' : mH), rec20 b0 b1 b2 h = some (r, h') → G sc y_Planner_leastHarm prog_3_method_7_code 4 (some .int) 2 54 20 [(0, .ref b0), (1, .int b1), (2, .int b2)] [] h (some (.int r)) h') (rec32 : Nat → Int32 → Int32 → Int32 → mH → Option (Int32 × mH)) (hrec32 : ∀ (b0 : Nat) (b1 : Int32) (b2 : Int32) (b3 : Int32) (h : mH) (r : Int32) (h' : mH), rec32 b0 b1 b2 b3 h = some (r, h') → G sc y_Planner_leastHarm prog_3_method_7_code 4 (some .int) 2 54 32 [(0, .ref b0), (1, .int b1), (2, .int b2), (3, .int b3)] [] h (some (.int r)) h') (b0 : Nat) (b1 : Int32) (b2 : Int32) (b3 : Int32) (h : mH) (r : Int32) (h' : mH) (hf : f_Planner_leastHarm_82 rec14 rec20 rec32 b0 b1 b2 b3 h = some (r, h')) : G sc y_Planner_leastHarm prog_3_method_7_code 4 (some .int) 2 54 82 [(0, .ref b0), (1, .int b1), (2, .int b2), (3, .int b3)] [] h (some (.int r)) h' := by
  unfold f_Planner_leastHarm_82 at hf
  refine g_iinc (pc := 82) 3 (b3 + (1 : Int32)) [(3, .int (b3 + (1 : Int32))), (0, .ref b0), (1, .int b1), (2, .int b2)] dd_Planner_leastHarm_81.2.1 rfl rfl (Nat.le_of_ble_eq_true rfl) rfl ?_
  refine g_goto (pc := 85) 32 dd_Planner_leastHarm_81.2.2.1 (by decide) ?_
  refine g_lv [1, 2, 3, 0] rfl ?_
  exact hrec32 _ _ _ _ _ _ _  hf
def f_Planner_leastHarm_81 (rec14 : Nat → Int32 → mH → Option (Int32 × mH)) (rec20 : Nat → Int32 → Int32 → mH → Option (Int32 × mH)) (rec32 : Nat → Int32 → Int32 → Int32 → mH → Option (Int32 × mH)) (b0 : Nat) (b1 : Int32) (b2 : Int32) (b3 : Int32) (s0 : Nat) (s1 : Int32) (s2 : Int32) (h : mH) : Option (Int32 × mH) :=
  bd1 (sI h 0 s0 s1 s2) fun h53 =>
  f_Planner_leastHarm_82 rec14 rec20 rec32 b0 b1 b2 b3 h53
set_option maxRecDepth 20000 in
theorem t_Planner_leastHarm_81 {sc : Nat × (Nat → Int32)} (rec14 : Nat → Int32 → mH → Option (Int32 × mH)) (hrec14 : ∀ (b0 : Nat) (b1 : Int32) (h : mH) (r : Int32) (h' : mH), rec14 b0 b1 h = some (r, h') → G sc y_Planner_leastHarm prog_3_method_7_code 4 (some .int) 2 54 14 [(0, .ref b0), (1, .int b1)] [] h (some (.int r)) h') (rec20 : Nat → Int32 → Int32 → mH → Option (Int32 × mH)) (hrec20 : ∀ (b0 : Nat) (b1 : Int32) (b2 : Int32) (h : mH) (r : Int32) (h' : mH), rec20 b0 b1 b2 h = some (r, h') → G sc y_Planner_leastHarm prog_3_method_7_code 4 (some .int) 2 54 20 [(0, .ref b0), (1, .int b1), (2, .int b2)] [] h (some (.int r)) h') (rec32 : Nat → Int32 → Int32 → Int32 → mH → Option (Int32 × mH)) (hrec32 : ∀ (b0 : Nat) (b1 : Int32) (b2 : Int32) (b3 : Int32) (h : mH) (r : Int32) (h' : mH), rec32 b0 b1 b2 b3 h = some (r, h') → G sc y_Planner_leastHarm prog_3_method_7_code 4 (some .int) 2 54 32 [(0, .ref b0), (1, .int b1), (2, .int b2), (3, .int b3)] [] h (some (.int r)) h') (b0 : Nat) (b1 : Int32) (b2 : Int32) (b3 : Int32) (s0 : Nat) (s1 : Int32) (s2 : Int32) (h : mH) (r : Int32) (h' : mH) (hf : f_Planner_leastHarm_81 rec14 rec20 rec32 b0 b1 b2 b3 s0 s1 s2 h = some (r, h')) : G sc y_Planner_leastHarm prog_3_method_7_code 4 (some .int) 2 54 81 [(0, .ref b0), (1, .int b1), (2, .int b2), (3, .int b3)] [.int s2, .int s1, .ref s0] h (some (.int r)) h' := by
  unfold f_Planner_leastHarm_81 at hf
  obtain ⟨h53, e54, hf⟩ := bd1_e hf
  refine g_iast (pc := 81) dd_Planner_leastHarm_81.1 e54 ?_
  refine g_lv [0, 1, 2, 3] rfl ?_
  exact t_Planner_leastHarm_82 rec14 hrec14 rec20 hrec20 rec32 hrec32 _ _ _ _ _ _ _  hf
def f_Planner_leastHarm_32b (rec14 : Nat → Int32 → mH → Option (Int32 × mH)) (rec20 : Nat → Int32 → Int32 → mH → Option (Int32 × mH)) (rec32 : Nat → Int32 → Int32 → Int32 → mH → Option (Int32 × mH)) (b0 : Nat) (b1 : Int32) (b2 : Int32) (b3 : Int32) (h : mH) : Option (Int32 × mH) :=
  bd1 (gR h b0 2 1) fun x29 =>
  bd1 (aI h 0 x29 (1 : Int32)) fun x31 =>
  if x31 < b3 then
    rec20 b0 b1 (b2 + (1 : Int32)) h
  else
    bd1 (kC h b0 2) fun _ =>
    bd2 (f_Planner_leftToLast b0 b1 b2 b3 h) fun x37 h35 =>
    if x37 < 0 then
      f_Planner_leastHarm_82 rec14 rec20 rec32 b0 b1 b2 b3 h35
    else
      bd1 (gR h35 b0 2 7) fun x38 =>
      bd2 (f_Planner_stateOf b1 b2 b3 h35) fun x42 h40 =>
      bd1 (gI h40 b0 2 0) fun x43 =>
      if b1 = x43 then
        f_Planner_leastHarm_81 rec14 rec20 rec32 b0 b1 b2 b3 x38 x42 (0 : Int32) h40
      else
        bd1 (kC h40 b0 2) fun _ =>
        bd2 (f_Planner_search b0 b1 b2 b3 h40) fun x49 h47 =>
        f_Planner_leastHarm_81 rec14 rec20 rec32 b0 b1 b2 b3 x38 x42 x49 h47
set_option maxRecDepth 20000 in
theorem t_Planner_leastHarm_32b {sc : Nat × (Nat → Int32)} (rec14 : Nat → Int32 → mH → Option (Int32 × mH)) (hrec14 : ∀ (b0 : Nat) (b1 : Int32) (h : mH) (r : Int32) (h' : mH), rec14 b0 b1 h = some (r, h') → G sc y_Planner_leastHarm prog_3_method_7_code 4 (some .int) 2 54 14 [(0, .ref b0), (1, .int b1)] [] h (some (.int r)) h') (rec20 : Nat → Int32 → Int32 → mH → Option (Int32 × mH)) (hrec20 : ∀ (b0 : Nat) (b1 : Int32) (b2 : Int32) (h : mH) (r : Int32) (h' : mH), rec20 b0 b1 b2 h = some (r, h') → G sc y_Planner_leastHarm prog_3_method_7_code 4 (some .int) 2 54 20 [(0, .ref b0), (1, .int b1), (2, .int b2)] [] h (some (.int r)) h') (rec32 : Nat → Int32 → Int32 → Int32 → mH → Option (Int32 × mH)) (hrec32 : ∀ (b0 : Nat) (b1 : Int32) (b2 : Int32) (b3 : Int32) (h : mH) (r : Int32) (h' : mH), rec32 b0 b1 b2 b3 h = some (r, h') → G sc y_Planner_leastHarm prog_3_method_7_code 4 (some .int) 2 54 32 [(0, .ref b0), (1, .int b1), (2, .int b2), (3, .int b3)] [] h (some (.int r)) h') (b0 : Nat) (b1 : Int32) (b2 : Int32) (b3 : Int32) (h : mH) (r : Int32) (h' : mH) (hf : f_Planner_leastHarm_32b rec14 rec20 rec32 b0 b1 b2 b3 h = some (r, h')) : G sc y_Planner_leastHarm prog_3_method_7_code 4 (some .int) 2 54 32 [(0, .ref b0), (1, .int b1), (2, .int b2), (3, .int b3)] [] h (some (.int r)) h' := by
  unfold f_Planner_leastHarm_32b at hf
  refine g_iload_n (pc := 32) 3 dd_Planner_leastHarm_0.2.2.2.2.2.2.2.2.2.2.2.2.2.2.2.2.2.2.2.1 rfl rfl ?_
  refine g_aload_n (pc := 33) 0 dd_Planner_leastHarm_0.2.2.2.2.2.2.2.2.2.2.2.2.2.2.2.2.2.2.2.2.1 rfl rfl ?_
  obtain ⟨x29, e30, hf⟩ := bd1_e hf
  refine g_get (pc := 34) (ci := 2) (kk := 1) dd_Planner_leastHarm_0.2.2.2.2.2.2.2.2.2.2.2.2.2.2.2.2.2.2.2.2.2.1 rfl in_Planner (by decide) wd_205 (gR_spec e30) ?_
  refine g_iconst (pc := 37) (1 : Int32) dd_Planner_leastHarm_0.2.2.2.2.2.2.2.2.2.2.2.2.2.2.2.2.2.2.2.2.2.2.1 (by decide) ?_
  obtain ⟨x31, e32, hf⟩ := bd1_e hf
  refine g_iald (pc := 38) dd_Planner_leastHarm_0.2.2.2.2.2.2.2.2.2.2.2.2.2.2.2.2.2.2.2.2.2.2.2 e32 ?_
  refine g_icmpgt (pc := 39) 88 dd_Planner_leastHarm_39.1 (by decide) (fun c52 => ?_) (fun c52 => ?_)
  · replace hf := (if_pos c52).symm.trans hf
    refine g_iinc (pc := 88) 2 (b2 + (1 : Int32)) [(2, .int (b2 + (1 : Int32))), (0, .ref b0), (1, .int b1), (3, .int b3)] dd_Planner_leastHarm_81.2.2.2.1 rfl rfl (Nat.le_of_ble_eq_true rfl) rfl ?_
    refine g_goto (pc := 91) 20 dd_Planner_leastHarm_81.2.2.2.2.1 (by decide) ?_
    refine g_lv [1, 2, 0] rfl ?_
    exact hrec20 _ _ _ _ _ _  hf
  · replace hf := (if_neg c52).symm.trans hf
    refine g_aload_n (pc := 42) 0 dd_Planner_leastHarm_39.2.1 rfl rfl ?_
    refine g_iload_n (pc := 43) 1 dd_Planner_leastHarm_39.2.2.1 rfl rfl ?_
    refine g_iload_n (pc := 44) 2 dd_Planner_leastHarm_39.2.2.2.1 rfl rfl ?_
    refine g_iload_n (pc := 45) 3 dd_Planner_leastHarm_39.2.2.2.2.1 rfl rfl ?_
    obtain ⟨u34, e33, hf⟩ := bd1_e hf
    obtain ⟨x37, h35, e36, hf⟩ := bd2_e hf
    refine g_callV (pc := 46) (ci := 2) [.int b1, .int b2, .int b3] (site_of si_Planner_leftToLast (by decide) (by decide)) wd_675 wd_677 wp_17 dd_Planner_leastHarm_39.2.2.2.2.2.1 rfl e33 (Nat.le_of_ble_eq_true rfl) (fun z => absurd z si_na_Planner_leftToLast) (fun z => absurd z si_na_Planner_leftToLast) (fun z => absurd z si_na_Planner_leftToLast) (c_Planner_leftToLast e36) rfl ?_
    refine g_st [.int x37] rfl ?_
    refine g_iflt (pc := 49) 82 dd_Planner_leastHarm_39.2.2.2.2.2.2.1 (by decide) (fun c51 => ?_) (fun c51 => ?_)
    · replace hf := (if_pos c51).symm.trans hf
      refine g_lv [0, 1, 2, 3] rfl ?_
      exact t_Planner_leastHarm_82 rec14 hrec14 rec20 hrec20 rec32 hrec32 _ _ _ _ _ _ _  hf
    · replace hf := (if_neg c51).symm.trans hf
      refine g_aload_n (pc := 52) 0 dd_Planner_leastHarm_39.2.2.2.2.2.2.2.1 rfl rfl ?_
      obtain ⟨x38, e39, hf⟩ := bd1_e hf
      refine g_get (pc := 53) (ci := 2) (kk := 7) dd_Planner_leastHarm_39.2.2.2.2.2.2.2.2.1 rfl in_Planner (by decide) wd_211 (gR_spec e39) ?_
      refine g_iload_n (pc := 56) 1 dd_Planner_leastHarm_39.2.2.2.2.2.2.2.2.2.1 rfl rfl ?_
      refine g_iload_n (pc := 57) 2 dd_Planner_leastHarm_39.2.2.2.2.2.2.2.2.2.2.1 rfl rfl ?_
      refine g_iload_n (pc := 58) 3 dd_Planner_leastHarm_39.2.2.2.2.2.2.2.2.2.2.2.1 rfl rfl ?_
      obtain ⟨x42, h40, e41, hf⟩ := bd2_e hf
      refine g_callS (pc := 59) [.int b1, .int b2, .int b3] (site_of si_Planner_stateOf (by decide) (by decide)) wd_679 wd_680 dd_Planner_leastHarm_39.2.2.2.2.2.2.2.2.2.2.2.2.1 (Nat.le_of_ble_eq_true rfl) (fun z => absurd z si_na_Planner_stateOf) (fun z => absurd z si_na_Planner_stateOf) (fun z => absurd z si_na_Planner_stateOf) (c_Planner_stateOf e41) rfl ?_
      refine g_st [.int x42, .ref x38] rfl ?_
      refine g_iload_n (pc := 62) 1 dd_Planner_leastHarm_39.2.2.2.2.2.2.2.2.2.2.2.2.2.1 rfl rfl ?_
      refine g_aload_n (pc := 63) 0 dd_Planner_leastHarm_39.2.2.2.2.2.2.2.2.2.2.2.2.2.2.1 rfl rfl ?_
      obtain ⟨x43, e44, hf⟩ := bd1_e hf
      refine g_get (pc := 64) (ci := 2) (kk := 0) dd_Planner_leastHarm_39.2.2.2.2.2.2.2.2.2.2.2.2.2.2.2.1 rfl in_Planner (by decide) wd_204 (gI_spec e44) ?_
      refine g_icmpne (pc := 67) 74 dd_Planner_leastHarm_39.2.2.2.2.2.2.2.2.2.2.2.2.2.2.2.2.1 (by decide) (fun c50 => ?_) (fun c50 => ?_)
      · replace hf := (if_neg c50).symm.trans hf
        refine g_aload_n (pc := 74) 0 dd_Planner_leastHarm_39.2.2.2.2.2.2.2.2.2.2.2.2.2.2.2.2.2.2.2.1 rfl rfl ?_
        refine g_iload_n (pc := 75) 1 dd_Planner_leastHarm_39.2.2.2.2.2.2.2.2.2.2.2.2.2.2.2.2.2.2.2.2.1 rfl rfl ?_
        refine g_iload_n (pc := 76) 2 dd_Planner_leastHarm_39.2.2.2.2.2.2.2.2.2.2.2.2.2.2.2.2.2.2.2.2.2.1 rfl rfl ?_
        refine g_iload_n (pc := 77) 3 dd_Planner_leastHarm_39.2.2.2.2.2.2.2.2.2.2.2.2.2.2.2.2.2.2.2.2.2.2.1 rfl rfl ?_
        obtain ⟨u46, e45, hf⟩ := bd1_e hf
        obtain ⟨x49, h47, e48, hf⟩ := bd2_e hf
        refine g_callV (pc := 78) (ci := 2) [.int b1, .int b2, .int b3] (site_of si_Planner_search (by decide) (by decide)) wd_682 wd_684 wp_18 dd_Planner_leastHarm_39.2.2.2.2.2.2.2.2.2.2.2.2.2.2.2.2.2.2.2.2.2.2.2 rfl e45 (Nat.le_of_ble_eq_true rfl) (fun z => absurd z si_na_Planner_search) (fun z => absurd z si_na_Planner_search) (fun z => absurd z si_na_Planner_search) (c_Planner_search e48) rfl ?_
        refine g_st [.int x49, .int x42, .ref x38] rfl ?_
        refine g_lv [0, 1, 2, 3] rfl ?_
        exact t_Planner_leastHarm_81 rec14 hrec14 rec20 hrec20 rec32 hrec32 _ _ _ _ _ _ _ _ _ _  hf
      · replace hf := (if_pos c50).symm.trans hf
        refine g_iconst (pc := 70) (0 : Int32) dd_Planner_leastHarm_39.2.2.2.2.2.2.2.2.2.2.2.2.2.2.2.2.2.1 (by decide) ?_
        refine g_goto (pc := 71) 81 dd_Planner_leastHarm_39.2.2.2.2.2.2.2.2.2.2.2.2.2.2.2.2.2.2.1 (by decide) ?_
        refine g_lv [0, 1, 2, 3] rfl ?_
        exact t_Planner_leastHarm_81 rec14 hrec14 rec20 hrec20 rec32 hrec32 _ _ _ _ _ _ _ _ _ _  hf
def f_Planner_leastHarm_32 (rec14 : Nat → Int32 → mH → Option (Int32 × mH)) (rec20 : Nat → Int32 → Int32 → mH → Option (Int32 × mH)) : Nat → Nat → Int32 → Int32 → Int32 → mH → Option (Int32 × mH)
  | 0 => fun _ _ _ _ _ => none
  | n + 1 => f_Planner_leastHarm_32b rec14 rec20 (f_Planner_leastHarm_32 rec14 rec20 n)
theorem t_Planner_leastHarm_32 {sc : Nat × (Nat → Int32)} (rec14 : Nat → Int32 → mH → Option (Int32 × mH)) (hrec14 : ∀ (b0 : Nat) (b1 : Int32) (h : mH) (r : Int32) (h' : mH), rec14 b0 b1 h = some (r, h') → G sc y_Planner_leastHarm prog_3_method_7_code 4 (some .int) 2 54 14 [(0, .ref b0), (1, .int b1)] [] h (some (.int r)) h') (rec20 : Nat → Int32 → Int32 → mH → Option (Int32 × mH)) (hrec20 : ∀ (b0 : Nat) (b1 : Int32) (b2 : Int32) (h : mH) (r : Int32) (h' : mH), rec20 b0 b1 b2 h = some (r, h') → G sc y_Planner_leastHarm prog_3_method_7_code 4 (some .int) 2 54 20 [(0, .ref b0), (1, .int b1), (2, .int b2)] [] h (some (.int r)) h') : ∀ (n : Nat) (b0 : Nat) (b1 : Int32) (b2 : Int32) (b3 : Int32) (h : mH) (r : Int32) (h' : mH) (hf : f_Planner_leastHarm_32 rec14 rec20 n b0 b1 b2 b3 h = some (r, h')), G sc y_Planner_leastHarm prog_3_method_7_code 4 (some .int) 2 54 32 [(0, .ref b0), (1, .int b1), (2, .int b2), (3, .int b3)] [] h (some (.int r)) h'
  | 0, _, _, _, _, _, _, _, hf => by cases hf
  | n + 1, _, _, _, _, _, _, _, hf => t_Planner_leastHarm_32b rec14 hrec14 rec20 hrec20 (f_Planner_leastHarm_32 rec14 rec20 n) (t_Planner_leastHarm_32 rec14 hrec14 rec20 hrec20 n) _ _ _ _ _ _ _ hf
def f_Planner_leastHarm_20b (rec14 : Nat → Int32 → mH → Option (Int32 × mH)) (rec20 : Nat → Int32 → Int32 → mH → Option (Int32 × mH)) (b0 : Nat) (b1 : Int32) (b2 : Int32) (h : mH) : Option (Int32 × mH) :=
  bd1 (gR h b0 2 1) fun x24 =>
  bd1 (aI h 0 x24 (0 : Int32)) fun x26 =>
  if x26 < b2 then
    rec14 b0 (b1 + ((-1) : Int32)) h
  else
    f_Planner_leastHarm_32 rec14 rec20 FU b0 b1 b2 (0 : Int32) h
set_option maxRecDepth 20000 in
theorem t_Planner_leastHarm_20b {sc : Nat × (Nat → Int32)} (rec14 : Nat → Int32 → mH → Option (Int32 × mH)) (hrec14 : ∀ (b0 : Nat) (b1 : Int32) (h : mH) (r : Int32) (h' : mH), rec14 b0 b1 h = some (r, h') → G sc y_Planner_leastHarm prog_3_method_7_code 4 (some .int) 2 54 14 [(0, .ref b0), (1, .int b1)] [] h (some (.int r)) h') (rec20 : Nat → Int32 → Int32 → mH → Option (Int32 × mH)) (hrec20 : ∀ (b0 : Nat) (b1 : Int32) (b2 : Int32) (h : mH) (r : Int32) (h' : mH), rec20 b0 b1 b2 h = some (r, h') → G sc y_Planner_leastHarm prog_3_method_7_code 4 (some .int) 2 54 20 [(0, .ref b0), (1, .int b1), (2, .int b2)] [] h (some (.int r)) h') (b0 : Nat) (b1 : Int32) (b2 : Int32) (h : mH) (r : Int32) (h' : mH) (hf : f_Planner_leastHarm_20b rec14 rec20 b0 b1 b2 h = some (r, h')) : G sc y_Planner_leastHarm prog_3_method_7_code 4 (some .int) 2 54 20 [(0, .ref b0), (1, .int b1), (2, .int b2)] [] h (some (.int r)) h' := by
  unfold f_Planner_leastHarm_20b at hf
  refine g_iload_n (pc := 20) 2 dd_Planner_leastHarm_0.2.2.2.2.2.2.2.2.2.2.2.1 rfl rfl ?_
  refine g_aload_n (pc := 21) 0 dd_Planner_leastHarm_0.2.2.2.2.2.2.2.2.2.2.2.2.1 rfl rfl ?_
  obtain ⟨x24, e25, hf⟩ := bd1_e hf
  refine g_get (pc := 22) (ci := 2) (kk := 1) dd_Planner_leastHarm_0.2.2.2.2.2.2.2.2.2.2.2.2.2.1 rfl in_Planner (by decide) wd_205 (gR_spec e25) ?_
  refine g_iconst (pc := 25) (0 : Int32) dd_Planner_leastHarm_0.2.2.2.2.2.2.2.2.2.2.2.2.2.2.1 (by decide) ?_
  obtain ⟨x26, e27, hf⟩ := bd1_e hf
  refine g_iald (pc := 26) dd_Planner_leastHarm_0.2.2.2.2.2.2.2.2.2.2.2.2.2.2.2.1 e27 ?_
  refine g_icmpgt (pc := 27) 94 dd_Planner_leastHarm_0.2.2.2.2.2.2.2.2.2.2.2.2.2.2.2.2.1 (by decide) (fun c28 => ?_) (fun c28 => ?_)
  · replace hf := (if_pos c28).symm.trans hf
    refine g_iinc (pc := 94) 1 (b1 + ((-1) : Int32)) [(1, .int (b1 + ((-1) : Int32))), (0, .ref b0), (2, .int b2)] dd_Planner_leastHarm_81.2.2.2.2.2.1 rfl rfl (Nat.le_of_ble_eq_true rfl) rfl ?_
    refine g_goto (pc := 97) 14 dd_Planner_leastHarm_81.2.2.2.2.2.2.1 (by decide) ?_
    refine g_lv [1, 0] rfl ?_
    exact hrec14 _ _ _ _ _  hf
  · replace hf := (if_neg c28).symm.trans hf
    refine g_iconst (pc := 30) (0 : Int32) dd_Planner_leastHarm_0.2.2.2.2.2.2.2.2.2.2.2.2.2.2.2.2.2.1 (by decide) ?_
    refine g_istore_n (pc := 31) [(3, .int (0 : Int32)), (0, .ref b0), (1, .int b1), (2, .int b2)] dd_Planner_leastHarm_0.2.2.2.2.2.2.2.2.2.2.2.2.2.2.2.2.2.2.1 rfl (Nat.le_of_ble_eq_true rfl) rfl ?_
    refine g_lv [1, 2, 3, 0] rfl ?_
    exact t_Planner_leastHarm_32 rec14 hrec14 rec20 hrec20 FU _ _ _ _ _ _ _  hf
def f_Planner_leastHarm_20 (rec14 : Nat → Int32 → mH → Option (Int32 × mH)) : Nat → Nat → Int32 → Int32 → mH → Option (Int32 × mH)
  | 0 => fun _ _ _ _ => none
  | n + 1 => f_Planner_leastHarm_20b rec14 (f_Planner_leastHarm_20 rec14 n)
theorem t_Planner_leastHarm_20 {sc : Nat × (Nat → Int32)} (rec14 : Nat → Int32 → mH → Option (Int32 × mH)) (hrec14 : ∀ (b0 : Nat) (b1 : Int32) (h : mH) (r : Int32) (h' : mH), rec14 b0 b1 h = some (r, h') → G sc y_Planner_leastHarm prog_3_method_7_code 4 (some .int) 2 54 14 [(0, .ref b0), (1, .int b1)] [] h (some (.int r)) h') : ∀ (n : Nat) (b0 : Nat) (b1 : Int32) (b2 : Int32) (h : mH) (r : Int32) (h' : mH) (hf : f_Planner_leastHarm_20 rec14 n b0 b1 b2 h = some (r, h')), G sc y_Planner_leastHarm prog_3_method_7_code 4 (some .int) 2 54 20 [(0, .ref b0), (1, .int b1), (2, .int b2)] [] h (some (.int r)) h'
  | 0, _, _, _, _, _, _, hf => by cases hf
  | n + 1, _, _, _, _, _, _, hf => t_Planner_leastHarm_20b rec14 hrec14 (f_Planner_leastHarm_20 rec14 n) (t_Planner_leastHarm_20 rec14 hrec14 n) _ _ _ _ _ _ hf
def f_Planner_leastHarm_14b (rec14 : Nat → Int32 → mH → Option (Int32 × mH)) (b0 : Nat) (b1 : Int32) (h : mH) : Option (Int32 × mH) :=
  if b1 < 0 then
    bd1 (gR h b0 2 7) fun x7 =>
    bd1 (gR h b0 2 1) fun x9 =>
    bd1 (aI h 0 x9 (0 : Int32)) fun x11 =>
    bd1 (gR h b0 2 1) fun x13 =>
    bd1 (aI h 0 x13 (1 : Int32)) fun x15 =>
    bd2 (f_Planner_stateOf (0 : Int32) x11 x15 h) fun x19 h17 =>
    bd1 (aI h17 0 x7 x19) fun x20 =>
    if (1000000 : Int32) ≤ x20 then
      some (((-4) : Int32), h17)
    else
      some (x20, h17)
  else
    f_Planner_leastHarm_20 rec14 FU b0 b1 (0 : Int32) h
set_option maxRecDepth 20000 in
theorem t_Planner_leastHarm_14b {sc : Nat × (Nat → Int32)} (rec14 : Nat → Int32 → mH → Option (Int32 × mH)) (hrec14 : ∀ (b0 : Nat) (b1 : Int32) (h : mH) (r : Int32) (h' : mH), rec14 b0 b1 h = some (r, h') → G sc y_Planner_leastHarm prog_3_method_7_code 4 (some .int) 2 54 14 [(0, .ref b0), (1, .int b1)] [] h (some (.int r)) h') (b0 : Nat) (b1 : Int32) (h : mH) (r : Int32) (h' : mH) (hf : f_Planner_leastHarm_14b rec14 b0 b1 h = some (r, h')) : G sc y_Planner_leastHarm prog_3_method_7_code 4 (some .int) 2 54 14 [(0, .ref b0), (1, .int b1)] [] h (some (.int r)) h' := by
  unfold f_Planner_leastHarm_14b at hf
  refine g_iload_n (pc := 14) 1 dd_Planner_leastHarm_0.2.2.2.2.2.2.2.1 rfl rfl ?_
  refine g_iflt (pc := 15) 100 dd_Planner_leastHarm_0.2.2.2.2.2.2.2.2.1 (by decide) (fun c23 => ?_) (fun c23 => ?_)
  · replace hf := (if_pos c23).symm.trans hf
    refine g_aload_n (pc := 100) 0 dd_Planner_leastHarm_81.2.2.2.2.2.2.2.1 rfl rfl ?_
    obtain ⟨x7, e8, hf⟩ := bd1_e hf
    refine g_get (pc := 101) (ci := 2) (kk := 7) dd_Planner_leastHarm_81.2.2.2.2.2.2.2.2.1 rfl in_Planner (by decide) wd_211 (gR_spec e8) ?_
    refine g_iconst (pc := 104) (0 : Int32) dd_Planner_leastHarm_81.2.2.2.2.2.2.2.2.2.1 (by decide) ?_
    refine g_aload_n (pc := 105) 0 dd_Planner_leastHarm_81.2.2.2.2.2.2.2.2.2.2.1 rfl rfl ?_
    obtain ⟨x9, e10, hf⟩ := bd1_e hf
    refine g_get (pc := 106) (ci := 2) (kk := 1) dd_Planner_leastHarm_81.2.2.2.2.2.2.2.2.2.2.2.1 rfl in_Planner (by decide) wd_205 (gR_spec e10) ?_
    refine g_iconst (pc := 109) (0 : Int32) dd_Planner_leastHarm_81.2.2.2.2.2.2.2.2.2.2.2.2.1 (by decide) ?_
    obtain ⟨x11, e12, hf⟩ := bd1_e hf
    refine g_iald (pc := 110) dd_Planner_leastHarm_81.2.2.2.2.2.2.2.2.2.2.2.2.2.1 e12 ?_
    refine g_aload_n (pc := 111) 0 dd_Planner_leastHarm_81.2.2.2.2.2.2.2.2.2.2.2.2.2.2.1 rfl rfl ?_
    obtain ⟨x13, e14, hf⟩ := bd1_e hf
    refine g_get (pc := 112) (ci := 2) (kk := 1) dd_Planner_leastHarm_81.2.2.2.2.2.2.2.2.2.2.2.2.2.2.2.1 rfl in_Planner (by decide) wd_205 (gR_spec e14) ?_
    refine g_iconst (pc := 115) (1 : Int32) dd_Planner_leastHarm_81.2.2.2.2.2.2.2.2.2.2.2.2.2.2.2.2.1 (by decide) ?_
    obtain ⟨x15, e16, hf⟩ := bd1_e hf
    refine g_iald (pc := 116) dd_Planner_leastHarm_81.2.2.2.2.2.2.2.2.2.2.2.2.2.2.2.2.2.1 e16 ?_
    obtain ⟨x19, h17, e18, hf⟩ := bd2_e hf
    refine g_callS (pc := 117) [.int (0 : Int32), .int x11, .int x15] (site_of si_Planner_stateOf (by decide) (by decide)) wd_679 wd_680 dd_Planner_leastHarm_81.2.2.2.2.2.2.2.2.2.2.2.2.2.2.2.2.2.2.1 (Nat.le_of_ble_eq_true rfl) (fun z => absurd z si_na_Planner_stateOf) (fun z => absurd z si_na_Planner_stateOf) (fun z => absurd z si_na_Planner_stateOf) (c_Planner_stateOf e18) rfl ?_
    refine g_st [.int x19, .ref x7] rfl ?_
    obtain ⟨x20, e21, hf⟩ := bd1_e hf
    refine g_iald (pc := 120) dd_Planner_leastHarm_81.2.2.2.2.2.2.2.2.2.2.2.2.2.2.2.2.2.2.2.1 e21 ?_
    refine g_istore_n (pc := 121) [(1, .int x20), (0, .ref b0)] dd_Planner_leastHarm_81.2.2.2.2.2.2.2.2.2.2.2.2.2.2.2.2.2.2.2.2.1 rfl (Nat.le_of_ble_eq_true rfl) rfl ?_
    refine g_iload_n (pc := 122) 0 dd_Planner_leastHarm_81.2.2.2.2.2.2.2.2.2.2.2.2.2.2.2.2.2.2.2.2.2.1 rfl rfl ?_
    refine g_ldc (pc := 123) (1000000 : Int32) dd_Planner_leastHarm_81.2.2.2.2.2.2.2.2.2.2.2.2.2.2.2.2.2.2.2.2.2.2.1 wd_674 ?_
    refine g_icmpge (pc := 125) 132 dd_Planner_leastHarm_81.2.2.2.2.2.2.2.2.2.2.2.2.2.2.2.2.2.2.2.2.2.2.2 (by decide) (fun c22 => ?_) (fun c22 => ?_)
    · replace hf := (if_pos c22).symm.trans hf
      refine g_bipush (pc := 132) ((-4) : Int32) dd_Planner_leastHarm_128.2.2.1 (by decide) ?_
      obtain ⟨rfl, rfl⟩ := ret2 hf
      exact g_iret (pc := 134) rfl dd_Planner_leastHarm_128.2.2.2
    · replace hf := (if_neg c22).symm.trans hf
      refine g_iload_n (pc := 128) 0 dd_Planner_leastHarm_128.1 rfl rfl ?_
      refine g_goto (pc := 129) 134 dd_Planner_leastHarm_128.2.1 (by decide) ?_
      obtain ⟨rfl, rfl⟩ := ret2 hf
      exact g_iret (pc := 134) rfl dd_Planner_leastHarm_128.2.2.2
  · replace hf := (if_neg c23).symm.trans hf
    refine g_iconst (pc := 18) (0 : Int32) dd_Planner_leastHarm_0.2.2.2.2.2.2.2.2.2.1 (by decide) ?_
    refine g_istore_n (pc := 19) [(2, .int (0 : Int32)), (0, .ref b0), (1, .int b1)] dd_Planner_leastHarm_0.2.2.2.2.2.2.2.2.2.2.1 rfl (Nat.le_of_ble_eq_true rfl) rfl ?_
    refine g_lv [1, 2, 0] rfl ?_
    exact t_Planner_leastHarm_20 rec14 hrec14 FU _ _ _ _ _ _  hf
def f_Planner_leastHarm_14  : Nat → Nat → Int32 → mH → Option (Int32 × mH)
  | 0 => fun _ _ _ => none
  | n + 1 => f_Planner_leastHarm_14b  (f_Planner_leastHarm_14  n)
theorem t_Planner_leastHarm_14 {sc : Nat × (Nat → Int32)}  : ∀ (n : Nat) (b0 : Nat) (b1 : Int32) (h : mH) (r : Int32) (h' : mH) (hf : f_Planner_leastHarm_14  n b0 b1 h = some (r, h')), G sc y_Planner_leastHarm prog_3_method_7_code 4 (some .int) 2 54 14 [(0, .ref b0), (1, .int b1)] [] h (some (.int r)) h'
  | 0, _, _, _, _, _, hf => by cases hf
  | n + 1, _, _, _, _, _, hf => t_Planner_leastHarm_14b  (f_Planner_leastHarm_14  n) (t_Planner_leastHarm_14  n) _ _ _ _ _ hf
def f_Planner_leastHarm_0  (a0 : Nat) (h : mH) : Option (Int32 × mH) :=
  bd1 (gR h a0 2 7) fun x1 =>
  bd1 (f_Arrays_fillI x1 (1000000 : Int32) h) fun h3 =>
  bd1 (gI h3 a0 2 0) fun x5 =>
  f_Planner_leastHarm_14  FU a0 x5 h3
set_option maxRecDepth 20000 in
theorem t_Planner_leastHarm_0 {sc : Nat × (Nat → Int32)}  (a0 : Nat) (h : mH) (r : Int32) (h' : mH) (hf : f_Planner_leastHarm_0  a0 h = some (r, h')) : G sc y_Planner_leastHarm prog_3_method_7_code 4 (some .int) 2 54 0 [(0, .ref a0)] [] h (some (.int r)) h' := by
  unfold f_Planner_leastHarm_0 at hf
  refine g_aload_n (pc := 0) 0 dd_Planner_leastHarm_0.1 rfl rfl ?_
  obtain ⟨x1, e2, hf⟩ := bd1_e hf
  refine g_get (pc := 1) (ci := 2) (kk := 7) dd_Planner_leastHarm_0.2.1 rfl in_Planner (by decide) wd_211 (gR_spec e2) ?_
  refine g_ldc (pc := 4) (1000000 : Int32) dd_Planner_leastHarm_0.2.2.1 wd_674 ?_
  obtain ⟨h3, e4, hf⟩ := bd1_e hf
  refine g_callS (pc := 6) [.ref x1, .int (1000000 : Int32)] (site_of si_Arrays_fillI (by decide) (by decide)) wd_665 wd_355 dd_Planner_leastHarm_0.2.2.2.1 (Nat.le_of_ble_eq_true rfl) (fun z => absurd z si_na_Arrays_fillI) (fun z => absurd z si_na_Arrays_fillI) (fun z => absurd z si_na_Arrays_fillI) (c_Arrays_fillI e4) rfl ?_
  refine g_st [] rfl ?_
  refine g_aload_n (pc := 9) 0 dd_Planner_leastHarm_0.2.2.2.2.1 rfl rfl ?_
  obtain ⟨x5, e6, hf⟩ := bd1_e hf
  refine g_get (pc := 10) (ci := 2) (kk := 0) dd_Planner_leastHarm_0.2.2.2.2.2.1 rfl in_Planner (by decide) wd_204 (gI_spec e6) ?_
  refine g_istore_n (pc := 13) [(1, .int x5), (0, .ref a0)] dd_Planner_leastHarm_0.2.2.2.2.2.2.1 rfl (Nat.le_of_ble_eq_true rfl) rfl ?_
  refine g_lv [1, 0] rfl ?_
  exact t_Planner_leastHarm_14  FU _ _ _ _ _  hf
def f_Planner_leastHarm (a0 : Nat) (h : mH) : Option (Int32 × mH) := f_Planner_leastHarm_0 a0 h
theorem c_Planner_leastHarm {sc : Nat × (Nat → Int32)} {a0 : Nat} {h : mH} {r : Int32} {h' : mH} (hf : f_Planner_leastHarm a0 h = some (r, h')) : MM sc y_Planner_leastHarm prog_3_method_7_code 4 (some .int) 2 54 [.ref a0] h (some (.int r)) h' :=
  mm_of_G si_pn_Planner (Nat.le_of_ble_eq_true rfl) (t_Planner_leastHarm_0 _ _ _ _ hf)
/-! Planner timesInFirst (II)I -/
set_option maxRecDepth 100000 in
theorem dd_Planner_timesInFirst_0 : (decode prog_3_method_8_code 0 = .ok (.aload_n 0, 1)) ∧ (decode prog_3_method_8_code 1 = .ok (.getfield 9, 3)) ∧ (decode prog_3_method_8_code 4 = .ok (.iconst 0, 1)) ∧ (decode prog_3_method_8_code 5 = .ok (.iaload, 1)) ∧ (decode prog_3_method_8_code 6 = .ok (.istore_n 3, 1)) ∧ (decode prog_3_method_8_code 7 = .ok (.aload_n 0, 1)) ∧ (decode prog_3_method_8_code 8 = .ok (.getfield 9, 3)) ∧ (decode prog_3_method_8_code 11 = .ok (.iconst 1, 1)) ∧ (decode prog_3_method_8_code 12 = .ok (.iaload, 1)) ∧ (decode prog_3_method_8_code 13 = .ok (.istore 4, 2)) ∧ (decode prog_3_method_8_code 15 = .ok (.iconst 0, 1)) ∧ (decode prog_3_method_8_code 16 = .ok (.istore 5, 2)) ∧ (decode prog_3_method_8_code 18 = .ok (.iload 5, 2)) ∧ (decode prog_3_method_8_code 20 = .ok (.iload_n 2, 1)) ∧ (decode prog_3_method_8_code 21 = .ok (.if_icmp .gt 43, 3)) ∧ (decode prog_3_method_8_code 24 = .ok (.aload_n 0, 1)) ∧ (decode prog_3_method_8_code 25 = .ok (.iload 5, 2)) ∧ (decode prog_3_method_8_code 27 = .ok (.iload_n 3, 1)) ∧ (decode prog_3_method_8_code 28 = .ok (.iload 4, 2)) ∧ (decode prog_3_method_8_code 30 = .ok (.invokevirtual 97, 3)) ∧ (decode prog_3_method_8_code 33 = .ok (.pop, 1)) ∧ (decode prog_3_method_8_code 34 = .ok (.iload_n 3, 1)) ∧ (decode prog_3_method_8_code 35 = .ok (.aload_n 0, 1)) ∧ (decode prog_3_method_8_code 36 = .ok (.getfield 27, 3)) := by
  have h : List.drop 0 prog_3_method_8_code.data.toList = 0x2a :: _ := rfl
  refine ⟨zq_k_n 42 h rfl (zq_o_42 _), ?_⟩
  replace h := zq_nx1 (q := 1) h rfl
  refine ⟨zq_k_u2 180 (fun z => .getfield z) 9 h rfl (zq_o_180 _) (by decide +kernel), ?_⟩
  replace h := zq_nx3 (q := 4) h rfl
  refine ⟨zq_k_n 3 h rfl (zq_o_3 _), ?_⟩
  replace h := zq_nx1 (q := 5) h rfl
  refine ⟨zq_k_n 46 h rfl (zq_o_46 _), ?_⟩
  replace h := zq_nx1 (q := 6) h rfl
  refine ⟨zq_k_n 62 h rfl (zq_o_62 _), ?_⟩
  replace h := zq_nx1 (q := 7) h rfl
  refine ⟨zq_k_n 42 h rfl (zq_o_42 _), ?_⟩
  replace h := zq_nx1 (q := 8) h rfl
  refine ⟨zq_k_u2 180 (fun z => .getfield z) 9 h rfl (zq_o_180 _) (by decide +kernel), ?_⟩
  replace h := zq_nx3 (q := 11) h rfl
  refine ⟨zq_k_n 4 h rfl (zq_o_4 _), ?_⟩
  replace h := zq_nx1 (q := 12) h rfl
  refine ⟨zq_k_n 46 h rfl (zq_o_46 _), ?_⟩
  replace h := zq_nx1 (q := 13) h rfl
  refine ⟨zq_k_u1 54 (fun z => .istore z) 4 h rfl (zq_o_54 _) (by decide +kernel), ?_⟩
  replace h := zq_nx2 (q := 15) h rfl
  refine ⟨zq_k_n 3 h rfl (zq_o_3 _), ?_⟩
  replace h := zq_nx1 (q := 16) h rfl
  refine ⟨zq_k_u1 54 (fun z => .istore z) 5 h rfl (zq_o_54 _) (by decide +kernel), ?_⟩
  replace h := zq_nx2 (q := 18) h rfl
  refine ⟨zq_k_u1 21 (fun z => .iload z) 5 h rfl (zq_o_21 _) (by decide +kernel), ?_⟩
  replace h := zq_nx2 (q := 20) h rfl
  refine ⟨zq_k_n 28 h rfl (zq_o_28 _), ?_⟩
  replace h := zq_nx1 (q := 21) h rfl
  refine ⟨zq_k_s2 163 (fun z => .if_icmp .gt z) 43 h rfl (zq_o_163 _) (by decide +kernel), ?_⟩
  replace h := zq_nx3 (q := 24) h rfl
  refine ⟨zq_k_n 42 h rfl (zq_o_42 _), ?_⟩
  replace h := zq_nx1 (q := 25) h rfl
  refine ⟨zq_k_u1 21 (fun z => .iload z) 5 h rfl (zq_o_21 _) (by decide +kernel), ?_⟩
  replace h := zq_nx2 (q := 27) h rfl
  refine ⟨zq_k_n 29 h rfl (zq_o_29 _), ?_⟩
  replace h := zq_nx1 (q := 28) h rfl
  refine ⟨zq_k_u1 21 (fun z => .iload z) 4 h rfl (zq_o_21 _) (by decide +kernel), ?_⟩
  replace h := zq_nx2 (q := 30) h rfl
  refine ⟨zq_k_u2 182 (fun z => .invokevirtual z) 97 h rfl (zq_o_182 _) (by decide +kernel), ?_⟩
  replace h := zq_nx3 (q := 33) h rfl
  refine ⟨zq_k_n 87 h rfl (zq_o_87 _), ?_⟩
  replace h := zq_nx1 (q := 34) h rfl
  refine ⟨zq_k_n 29 h rfl (zq_o_29 _), ?_⟩
  replace h := zq_nx1 (q := 35) h rfl
  refine ⟨zq_k_n 42 h rfl (zq_o_42 _), ?_⟩
  replace h := zq_nx1 (q := 36) h rfl
  exact zq_k_u2 180 (fun z => .getfield z) 27 h rfl (zq_o_180 _) (by decide +kernel)
set_option maxRecDepth 100000 in
theorem dd_Planner_timesInFirst_39 : (decode prog_3_method_8_code 39 = .ok (.iload 5, 2)) ∧ (decode prog_3_method_8_code 41 = .ok (.iaload, 1)) ∧ (decode prog_3_method_8_code 42 = .ok (.isub, 1)) ∧ (decode prog_3_method_8_code 43 = .ok (.istore_n 3, 1)) ∧ (decode prog_3_method_8_code 44 = .ok (.iload 4, 2)) ∧ (decode prog_3_method_8_code 46 = .ok (.aload_n 0, 1)) ∧ (decode prog_3_method_8_code 47 = .ok (.getfield 27, 3)) ∧ (decode prog_3_method_8_code 50 = .ok (.iconst 5, 1)) ∧ (decode prog_3_method_8_code 51 = .ok (.iload 5, 2)) ∧ (decode prog_3_method_8_code 53 = .ok (.iadd, 1)) ∧ (decode prog_3_method_8_code 54 = .ok (.iaload, 1)) ∧ (decode prog_3_method_8_code 55 = .ok (.isub, 1)) ∧ (decode prog_3_method_8_code 56 = .ok (.istore 4, 2)) ∧ (decode prog_3_method_8_code 58 = .ok (.iinc 5 1, 3)) ∧ (decode prog_3_method_8_code 61 = .ok (.goto (-43), 3)) ∧ (decode prog_3_method_8_code 64 = .ok (.aload_n 0, 1)) ∧ (decode prog_3_method_8_code 65 = .ok (.getfield 27, 3)) ∧ (decode prog_3_method_8_code 68 = .ok (.iload_n 1, 1)) ∧ (decode prog_3_method_8_code 69 = .ok (.iconst 5, 1)) ∧ (decode prog_3_method_8_code 70 = .ok (.imul, 1)) ∧ (decode prog_3_method_8_code 71 = .ok (.iload_n 2, 1)) ∧ (decode prog_3_method_8_code 72 = .ok (.iadd, 1)) ∧ (decode prog_3_method_8_code 73 = .ok (.iaload, 1)) ∧ (decode prog_3_method_8_code 74 = .ok (.ireturn, 1)) := by
  have h : List.drop 39 prog_3_method_8_code.data.toList = 0x15 :: _ := rfl
  refine ⟨zq_k_u1 21 (fun z => .iload z) 5 h rfl (zq_o_21 _) (by decide +kernel), ?_⟩
  replace h := zq_nx2 (q := 41) h rfl
  refine ⟨zq_k_n 46 h rfl (zq_o_46 _), ?_⟩
  replace h := zq_nx1 (q := 42) h rfl
  refine ⟨zq_k_n 100 h rfl (zq_o_100 _), ?_⟩
  replace h := zq_nx1 (q := 43) h rfl
  refine ⟨zq_k_n 62 h rfl (zq_o_62 _), ?_⟩
  replace h := zq_nx1 (q := 44) h rfl
  refine ⟨zq_k_u1 21 (fun z => .iload z) 4 h rfl (zq_o_21 _) (by decide +kernel), ?_⟩
  replace h := zq_nx2 (q := 46) h rfl
  refine ⟨zq_k_n 42 h rfl (zq_o_42 _), ?_⟩
  replace h := zq_nx1 (q := 47) h rfl
  refine ⟨zq_k_u2 180 (fun z => .getfield z) 27 h rfl (zq_o_180 _) (by decide +kernel), ?_⟩
  replace h := zq_nx3 (q := 50) h rfl
  refine ⟨zq_k_n 8 h rfl (zq_o_8 _), ?_⟩
  replace h := zq_nx1 (q := 51) h rfl
  refine ⟨zq_k_u1 21 (fun z => .iload z) 5 h rfl (zq_o_21 _) (by decide +kernel), ?_⟩
  replace h := zq_nx2 (q := 53) h rfl
  refine ⟨zq_k_n 96 h rfl (zq_o_96 _), ?_⟩
  replace h := zq_nx1 (q := 54) h rfl
  refine ⟨zq_k_n 46 h rfl (zq_o_46 _), ?_⟩
  replace h := zq_nx1 (q := 55) h rfl
  refine ⟨zq_k_n 100 h rfl (zq_o_100 _), ?_⟩
  replace h := zq_nx1 (q := 56) h rfl
  refine ⟨zq_k_u1 54 (fun z => .istore z) 4 h rfl (zq_o_54 _) (by decide +kernel), ?_⟩
  replace h := zq_nx2 (q := 58) h rfl
  refine ⟨zq_k_iinc 5 1 h rfl (zq_o_132 _) (by decide +kernel) (by decide +kernel), ?_⟩
  replace h := zq_nx3 (q := 61) h rfl
  refine ⟨zq_k_s2 167 (fun z => .goto z) (-43) h rfl (zq_o_167 _) (by decide +kernel), ?_⟩
  replace h := zq_nx3 (q := 64) h rfl
  refine ⟨zq_k_n 42 h rfl (zq_o_42 _), ?_⟩
  replace h := zq_nx1 (q := 65) h rfl
  refine ⟨zq_k_u2 180 (fun z => .getfield z) 27 h rfl (zq_o_180 _) (by decide +kernel), ?_⟩
  replace h := zq_nx3 (q := 68) h rfl
  refine ⟨zq_k_n 27 h rfl (zq_o_27 _), ?_⟩
  replace h := zq_nx1 (q := 69) h rfl
  refine ⟨zq_k_n 8 h rfl (zq_o_8 _), ?_⟩
  replace h := zq_nx1 (q := 70) h rfl
  refine ⟨zq_k_n 104 h rfl (zq_o_104 _), ?_⟩
  replace h := zq_nx1 (q := 71) h rfl
  refine ⟨zq_k_n 28 h rfl (zq_o_28 _), ?_⟩
  replace h := zq_nx1 (q := 72) h rfl
  refine ⟨zq_k_n 96 h rfl (zq_o_96 _), ?_⟩
  replace h := zq_nx1 (q := 73) h rfl
  refine ⟨zq_k_n 46 h rfl (zq_o_46 _), ?_⟩
  replace h := zq_nx1 (q := 74) h rfl
  exact zq_k_n 172 h rfl (zq_o_172 _)
def f_Planner_timesInFirst_18b (rec18 : Nat → Int32 → Int32 → Int32 → Int32 → Int32 → mH → Option (Int32 × mH)) (b0 : Nat) (b1 : Int32) (b2 : Int32) (b3 : Int32) (b4 : Int32) (b5 : Int32) (h : mH) : Option (Int32 × mH) :=
  if b2 < b5 then
    bd1 (gR h b0 2 6) fun x9 =>
    bd1 (aI h 0 x9 ((b1 * (5 : Int32)) + b2)) fun x11 =>
    some (x11, h)
  else
    bd1 (kC h b0 2) fun _ =>
    bd2 (f_Planner_search b0 b5 b3 b4 h) fun x17 h15 =>
    bd1 (gR h15 b0 2 6) fun x18 =>
    bd1 (aI h15 0 x18 b5) fun x20 =>
    bd1 (gR h15 b0 2 6) fun x22 =>
    bd1 (aI h15 0 x22 ((5 : Int32) + b5)) fun x24 =>
    rec18 b0 b1 b2 (b3 - x20) (b4 - x24) (b5 + (1 : Int32)) h15
set_option maxRecDepth 20000 in
theorem t_Planner_timesInFirst_18b {sc : Nat × (Nat → Int32)} (rec18 : Nat → Int32 → Int32 → Int32 → Int32 → Int32 → mH → Option (Int32 × mH)) (hrec18 : ∀ (b0 : Nat) (b1 : Int32) (b2 : Int32) (b3 : Int32) (b4 : Int32) (b5 : Int32) (h : mH) (r : Int32) (h' : mH), rec18 b0 b1 b2 b3 b4 b5 h = some (r, h') → G sc y_Planner_timesInFirst prog_3_method_8_code 6 (some .int) 2 54 18 [(0, .ref b0), (1, .int b1), (2, .int b2), (3, .int b3), (4, .int b4), (5, .int b5)] [] h (some (.int r)) h') (b0 : Nat) (b1 : Int32) (b2 : Int32) (b3 : Int32) (b4 : Int32) (b5 : Int32) (h : mH) (r : Int32) (h' : mH) (hf : f_Planner_timesInFirst_18b rec18 b0 b1 b2 b3 b4 b5 h = some (r, h')) : G sc y_Planner_timesInFirst prog_3_method_8_code 6 (some .int) 2 54 18 [(0, .ref b0), (1, .int b1), (2, .int b2), (3, .int b3), (4, .int b4), (5, .int b5)] [] h (some (.int r)) h' := by
  unfold f_Planner_timesInFirst_18b at hf
  refine g_iload (pc := 18) 5 dd_Planner_timesInFirst_0.2.2.2.2.2.2.2.2.2.2.2.2.1 rfl ?_
  refine g_iload_n (pc := 20) 2 dd_Planner_timesInFirst_0.2.2.2.2.2.2.2.2.2.2.2.2.2.1 rfl rfl ?_
  refine g_icmpgt (pc := 21) 64 dd_Planner_timesInFirst_0.2.2.2.2.2.2.2.2.2.2.2.2.2.2.1 (by decide) (fun c26 => ?_) (fun c26 => ?_)
  · replace hf := (if_pos c26).symm.trans hf
    refine g_aload_n (pc := 64) 0 dd_Planner_timesInFirst_39.2.2.2.2.2.2.2.2.2.2.2.2.2.2.2.1 rfl rfl ?_
    obtain ⟨x9, e10, hf⟩ := bd1_e hf
    refine g_get (pc := 65) (ci := 2) (kk := 6) dd_Planner_timesInFirst_39.2.2.2.2.2.2.2.2.2.2.2.2.2.2.2.2.1 rfl in_Planner (by decide) wd_210 (gR_spec e10) ?_
    refine g_iload_n (pc := 68) 1 dd_Planner_timesInFirst_39.2.2.2.2.2.2.2.2.2.2.2.2.2.2.2.2.2.1 rfl rfl ?_
    refine g_iconst (pc := 69) (5 : Int32) dd_Planner_timesInFirst_39.2.2.2.2.2.2.2.2.2.2.2.2.2.2.2.2.2.2.1 (by decide) ?_
    refine g_imul (pc := 70) dd_Planner_timesInFirst_39.2.2.2.2.2.2.2.2.2.2.2.2.2.2.2.2.2.2.2.1 ?_
    refine g_iload_n (pc := 71) 2 dd_Planner_timesInFirst_39.2.2.2.2.2.2.2.2.2.2.2.2.2.2.2.2.2.2.2.2.1 rfl rfl ?_
    refine g_iadd (pc := 72) dd_Planner_timesInFirst_39.2.2.2.2.2.2.2.2.2.2.2.2.2.2.2.2.2.2.2.2.2.1 ?_
    obtain ⟨x11, e12, hf⟩ := bd1_e hf
    refine g_iald (pc := 73) dd_Planner_timesInFirst_39.2.2.2.2.2.2.2.2.2.2.2.2.2.2.2.2.2.2.2.2.2.2.1 e12 ?_
    obtain ⟨rfl, rfl⟩ := ret2 hf
    exact g_iret (pc := 74) rfl dd_Planner_timesInFirst_39.2.2.2.2.2.2.2.2.2.2.2.2.2.2.2.2.2.2.2.2.2.2.2
  · replace hf := (if_neg c26).symm.trans hf
    refine g_aload_n (pc := 24) 0 dd_Planner_timesInFirst_0.2.2.2.2.2.2.2.2.2.2.2.2.2.2.2.1 rfl rfl ?_
    refine g_iload (pc := 25) 5 dd_Planner_timesInFirst_0.2.2.2.2.2.2.2.2.2.2.2.2.2.2.2.2.1 rfl ?_
    refine g_iload_n (pc := 27) 3 dd_Planner_timesInFirst_0.2.2.2.2.2.2.2.2.2.2.2.2.2.2.2.2.2.1 rfl rfl ?_
    refine g_iload (pc := 28) 4 dd_Planner_timesInFirst_0.2.2.2.2.2.2.2.2.2.2.2.2.2.2.2.2.2.2.1 rfl ?_
    obtain ⟨u14, e13, hf⟩ := bd1_e hf
    obtain ⟨x17, h15, e16, hf⟩ := bd2_e hf
    refine g_callV (pc := 30) (ci := 2) [.int b5, .int b3, .int b4] (site_of si_Planner_search (by decide) (by decide)) wd_682 wd_684 wp_18 dd_Planner_timesInFirst_0.2.2.2.2.2.2.2.2.2.2.2.2.2.2.2.2.2.2.2.1 rfl e13 (Nat.le_of_ble_eq_true rfl) (fun z => absurd z si_na_Planner_search) (fun z => absurd z si_na_Planner_search) (fun z => absurd z si_na_Planner_search) (c_Planner_search e16) rfl ?_
    refine g_st [.int x17] rfl ?_
    refine g_pop (pc := 33) dd_Planner_timesInFirst_0.2.2.2.2.2.2.2.2.2.2.2.2.2.2.2.2.2.2.2.2.1 rfl ?_
    refine g_iload_n (pc := 34) 3 dd_Planner_timesInFirst_0.2.2.2.2.2.2.2.2.2.2.2.2.2.2.2.2.2.2.2.2.2.1 rfl rfl ?_
    refine g_aload_n (pc := 35) 0 dd_Planner_timesInFirst_0.2.2.2.2.2.2.2.2.2.2.2.2.2.2.2.2.2.2.2.2.2.2.1 rfl rfl ?_
    obtain ⟨x18, e19, hf⟩ := bd1_e hf
    refine g_get (pc := 36) (ci := 2) (kk := 6) dd_Planner_timesInFirst_0.2.2.2.2.2.2.2.2.2.2.2.2.2.2.2.2.2.2.2.2.2.2.2 rfl in_Planner (by decide) wd_210 (gR_spec e19) ?_
    refine g_iload (pc := 39) 5 dd_Planner_timesInFirst_39.1 rfl ?_
    obtain ⟨x20, e21, hf⟩ := bd1_e hf
    refine g_iald (pc := 41) dd_Planner_timesInFirst_39.2.1 e21 ?_
    refine g_isub (pc := 42) dd_Planner_timesInFirst_39.2.2.1 ?_
    refine g_istore_n (pc := 43) [(3, .int (b3 - x20)), (0, .ref b0), (1, .int b1), (2, .int b2), (4, .int b4), (5, .int b5)] dd_Planner_timesInFirst_39.2.2.2.1 rfl (Nat.le_of_ble_eq_true rfl) rfl ?_
    refine g_iload (pc := 44) 4 dd_Planner_timesInFirst_39.2.2.2.2.1 rfl ?_
    refine g_aload_n (pc := 46) 1 dd_Planner_timesInFirst_39.2.2.2.2.2.1 rfl rfl ?_
    obtain ⟨x22, e23, hf⟩ := bd1_e hf
    refine g_get (pc := 47) (ci := 2) (kk := 6) dd_Planner_timesInFirst_39.2.2.2.2.2.2.1 rfl in_Planner (by decide) wd_210 (gR_spec e23) ?_
    refine g_iconst (pc := 50) (5 : Int32) dd_Planner_timesInFirst_39.2.2.2.2.2.2.2.1 (by decide) ?_
    refine g_iload (pc := 51) 5 dd_Planner_timesInFirst_39.2.2.2.2.2.2.2.2.1 rfl ?_
    refine g_iadd (pc := 53) dd_Planner_timesInFirst_39.2.2.2.2.2.2.2.2.2.1 ?_
    obtain ⟨x24, e25, hf⟩ := bd1_e hf
    refine g_iald (pc := 54) dd_Planner_timesInFirst_39.2.2.2.2.2.2.2.2.2.2.1 e25 ?_
    refine g_isub (pc := 55) dd_Planner_timesInFirst_39.2.2.2.2.2.2.2.2.2.2.2.1 ?_
    refine g_istore (pc := 56) [(4, .int (b4 - x24)), (3, .int (b3 - x20)), (0, .ref b0), (1, .int b1), (2, .int b2), (5, .int b5)] dd_Planner_timesInFirst_39.2.2.2.2.2.2.2.2.2.2.2.2.1 (Nat.le_of_ble_eq_true rfl) rfl ?_
    refine g_iinc (pc := 58) 5 (b5 + (1 : Int32)) [(5, .int (b5 + (1 : Int32))), (4, .int (b4 - x24)), (3, .int (b3 - x20)), (0, .ref b0), (1, .int b1), (2, .int b2)] dd_Planner_timesInFirst_39.2.2.2.2.2.2.2.2.2.2.2.2.2.1 rfl rfl (Nat.le_of_ble_eq_true rfl) rfl ?_
    refine g_goto (pc := 61) 18 dd_Planner_timesInFirst_39.2.2.2.2.2.2.2.2.2.2.2.2.2.2.1 (by decide) ?_
    refine g_lv [3, 4, 5, 2, 1, 0] rfl ?_
    exact hrec18 _ _ _ _ _ _ _ _ _  hf
def f_Planner_timesInFirst_18  : Nat → Nat → Int32 → Int32 → Int32 → Int32 → Int32 → mH → Option (Int32 × mH)
  | 0 => fun _ _ _ _ _ _ _ => none
  | n + 1 => f_Planner_timesInFirst_18b  (f_Planner_timesInFirst_18  n)
theorem t_Planner_timesInFirst_18 {sc : Nat × (Nat → Int32)}  : ∀ (n : Nat) (b0 : Nat) (b1 : Int32) (b2 : Int32) (b3 : Int32) (b4 : Int32) (b5 : Int32) (h : mH) (r : Int32) (h' : mH) (hf : f_Planner_timesInFirst_18  n b0 b1 b2 b3 b4 b5 h = some (r, h')), G sc y_Planner_timesInFirst prog_3_method_8_code 6 (some .int) 2 54 18 [(0, .ref b0), (1, .int b1), (2, .int b2), (3, .int b3), (4, .int b4), (5, .int b5)] [] h (some (.int r)) h'
  | 0, _, _, _, _, _, _, _, _, _, hf => by cases hf
  | n + 1, _, _, _, _, _, _, _, _, _, hf => t_Planner_timesInFirst_18b  (f_Planner_timesInFirst_18  n) (t_Planner_timesInFirst_18  n) _ _ _ _ _ _ _ _ _ hf
def f_Planner_timesInFirst_0  (a0 : Nat) (a1 : Int32) (a2 : Int32) (h : mH) : Option (Int32 × mH) :=
  bd1 (gR h a0 2 1) fun x1 =>
  bd1 (aI h 0 x1 (0 : Int32)) fun x3 =>
  bd1 (gR h a0 2 1) fun x5 =>
  bd1 (aI h 0 x5 (1 : Int32)) fun x7 =>
  f_Planner_timesInFirst_18  FU a0 a1 a2 x3 x7 (0 : Int32) h
set_option maxRecDepth 20000 in
theorem t_Planner_timesInFirst_0 {sc : Nat × (Nat → Int32)}  (a0 : Nat) (a1 : Int32) (a2 : Int32) (h : mH) (r : Int32) (h' : mH) (hf : f_Planner_timesInFirst_0  a0 a1 a2 h = some (r, h')) : G sc y_Planner_timesInFirst prog_3_method_8_code 6 (some .int) 2 54 0 [(0, .ref a0), (1, .int a1), (2, .int a2)] [] h (some (.int r)) h' := by
  unfold f_Planner_timesInFirst_0 at hf
  refine g_aload_n (pc := 0) 0 dd_Planner_timesInFirst_0.1 rfl rfl ?_
  obtain ⟨x1, e2, hf⟩ := bd1_e hf
  refine g_get (pc := 1) (ci := 2) (kk := 1) dd_Planner_timesInFirst_0.2.1 rfl in_Planner (by decide) wd_205 (gR_spec e2) ?_
  refine g_iconst (pc := 4) (0 : Int32) dd_Planner_timesInFirst_0.2.2.1 (by decide) ?_
  obtain ⟨x3, e4, hf⟩ := bd1_e hf
  refine g_iald (pc := 5) dd_Planner_timesInFirst_0.2.2.2.1 e4 ?_
  refine g_istore_n (pc := 6) [(3, .int x3), (0, .ref a0), (1, .int a1), (2, .int a2)] dd_Planner_timesInFirst_0.2.2.2.2.1 rfl (Nat.le_of_ble_eq_true rfl) rfl ?_
  refine g_aload_n (pc := 7) 1 dd_Planner_timesInFirst_0.2.2.2.2.2.1 rfl rfl ?_
  obtain ⟨x5, e6, hf⟩ := bd1_e hf
  refine g_get (pc := 8) (ci := 2) (kk := 1) dd_Planner_timesInFirst_0.2.2.2.2.2.2.1 rfl in_Planner (by decide) wd_205 (gR_spec e6) ?_
  refine g_iconst (pc := 11) (1 : Int32) dd_Planner_timesInFirst_0.2.2.2.2.2.2.2.1 (by decide) ?_
  obtain ⟨x7, e8, hf⟩ := bd1_e hf
  refine g_iald (pc := 12) dd_Planner_timesInFirst_0.2.2.2.2.2.2.2.2.1 e8 ?_
  refine g_istore (pc := 13) [(4, .int x7), (3, .int x3), (0, .ref a0), (1, .int a1), (2, .int a2)] dd_Planner_timesInFirst_0.2.2.2.2.2.2.2.2.2.1 (Nat.le_of_ble_eq_true rfl) rfl ?_
  refine g_iconst (pc := 15) (0 : Int32) dd_Planner_timesInFirst_0.2.2.2.2.2.2.2.2.2.2.1 (by decide) ?_
  refine g_istore (pc := 16) [(5, .int (0 : Int32)), (4, .int x7), (3, .int x3), (0, .ref a0), (1, .int a1), (2, .int a2)] dd_Planner_timesInFirst_0.2.2.2.2.2.2.2.2.2.2.2.1 (Nat.le_of_ble_eq_true rfl) rfl ?_
  refine g_lv [3, 4, 5, 2, 1, 0] rfl ?_
  exact t_Planner_timesInFirst_18  FU _ _ _ _ _ _ _ _ _  hf
def f_Planner_timesInFirst (a0 : Nat) (a1 : Int32) (a2 : Int32) (h : mH) : Option (Int32 × mH) := f_Planner_timesInFirst_0 a0 a1 a2 h
theorem c_Planner_timesInFirst {sc : Nat × (Nat → Int32)} {a0 : Nat} {a1 : Int32} {a2 : Int32} {h : mH} {r : Int32} {h' : mH} (hf : f_Planner_timesInFirst a0 a1 a2 h = some (r, h')) : MM sc y_Planner_timesInFirst prog_3_method_8_code 6 (some .int) 2 54 [.ref a0, .int a1, .int a2] h (some (.int r)) h' :=
  mm_of_G si_pn_Planner (Nat.le_of_ble_eq_true rfl) (t_Planner_timesInFirst_0 _ _ _ _ _ _ hf)
/-! Q rota (I)I -/
set_option maxRecDepth 100000 in
theorem dd_Q_rota_0 : (decode prog_1_method_22_code 0 = .ok (.iload_n 1, 1)) ∧ (decode prog_1_method_22_code 1 = .ok (.bipush 10, 2)) ∧ (decode prog_1_method_22_code 3 = .ok (.isub, 1)) ∧ (decode prog_1_method_22_code 4 = .ok (.istore_n 2, 1)) ∧ (decode prog_1_method_22_code 5 = .ok (.iload_n 1, 1)) ∧ (decode prog_1_method_22_code 6 = .ok (.bipush 10, 2)) ∧ (decode prog_1_method_22_code 8 = .ok (.if_icmp .lt 23, 3)) ∧ (decode prog_1_method_22_code 11 = .ok (.aload_n 0, 1)) ∧ (decode prog_1_method_22_code 12 = .ok (.getfield 19, 3)) ∧ (decode prog_1_method_22_code 15 = .ok (.iload_n 2, 1)) ∧ (decode prog_1_method_22_code 16 = .ok (.iconst 3, 1)) ∧ (decode prog_1_method_22_code 17 = .ok (.irem, 1)) ∧ (decode prog_1_method_22_code 18 = .ok (.iload_n 2, 1)) ∧ (decode prog_1_method_22_code 19 = .ok (.iconst 3, 1)) ∧ (decode prog_1_method_22_code 20 = .ok (.idiv, 1)) ∧ (decode prog_1_method_22_code 21 = .ok (.invokevirtual 162, 3)) ∧ (decode prog_1_method_22_code 24 = .ok (.ifCond .eq 7, 3)) ∧ (decode prog_1_method_22_code 27 = .ok (.iconst 1, 1)) ∧ (decode prog_1_method_22_code 28 = .ok (.goto 4, 3)) ∧ (decode prog_1_method_22_code 31 = .ok (.iconst 0, 1)) ∧ (decode prog_1_method_22_code 32 = .ok (.istore_n 3, 1)) ∧ (decode prog_1_method_22_code 33 = .ok (.iload_n 1, 1)) ∧ (decode prog_1_method_22_code 34 = .ok (.ifCond .eq 9, 3)) ∧ (decode prog_1_method_22_code 37 = .ok (.iload_n 3, 1)) := by
  have h : List.drop 0 prog_1_method_22_code.data.toList = 0x1b :: _ := rfl
  refine ⟨zq_k_n 27 h rfl (zq_o_27 _), ?_⟩
  replace h := zq_nx1 (q := 1) h rfl
  refine ⟨zq_k_s1 16 (fun z => .bipush z) 10 h rfl (zq_o_16 _) (by decide +kernel), ?_⟩
  replace h := zq_nx2 (q := 3) h rfl
  refine ⟨zq_k_n 100 h rfl (zq_o_100 _), ?_⟩
  replace h := zq_nx1 (q := 4) h rfl
  refine ⟨zq_k_n 61 h rfl (zq_o_61 _), ?_⟩
  replace h := zq_nx1 (q := 5) h rfl
  refine ⟨zq_k_n 27 h rfl (zq_o_27 _), ?_⟩
  replace h := zq_nx1 (q := 6) h rfl
  refine ⟨zq_k_s1 16 (fun z => .bipush z) 10 h rfl (zq_o_16 _) (by decide +kernel), ?_⟩
  replace h := zq_nx2 (q := 8) h rfl
  refine ⟨zq_k_s2 161 (fun z => .if_icmp .lt z) 23 h rfl (zq_o_161 _) (by decide +kernel), ?_⟩
  replace h := zq_nx3 (q := 11) h rfl
  refine ⟨zq_k_n 42 h rfl (zq_o_42 _), ?_⟩
  replace h := zq_nx1 (q := 12) h rfl
  refine ⟨zq_k_u2 180 (fun z => .getfield z) 19 h rfl (zq_o_180 _) (by decide +kernel), ?_⟩
  replace h := zq_nx3 (q := 15) h rfl
  refine ⟨zq_k_n 28 h rfl (zq_o_28 _), ?_⟩
  replace h := zq_nx1 (q := 16) h rfl
  refine ⟨zq_k_n 6 h rfl (zq_o_6 _), ?_⟩
  replace h := zq_nx1 (q := 17) h rfl
  refine ⟨zq_k_n 112 h rfl (zq_o_112 _), ?_⟩
  replace h := zq_nx1 (q := 18) h rfl
  refine ⟨zq_k_n 28 h rfl (zq_o_28 _), ?_⟩
  replace h := zq_nx1 (q := 19) h rfl
  refine ⟨zq_k_n 6 h rfl (zq_o_6 _), ?_⟩
  replace h := zq_nx1 (q := 20) h rfl
  refine ⟨zq_k_n 108 h rfl (zq_o_108 _), ?_⟩
  replace h := zq_nx1 (q := 21) h rfl
  refine ⟨zq_k_u2 182 (fun z => .invokevirtual z) 162 h rfl (zq_o_182 _) (by decide +kernel), ?_⟩
  replace h := zq_nx3 (q := 24) h rfl
  refine ⟨zq_k_s2 153 (fun z => .ifCond .eq z) 7 h rfl (zq_o_153 _) (by decide +kernel), ?_⟩
  replace h := zq_nx3 (q := 27) h rfl
  refine ⟨zq_k_n 4 h rfl (zq_o_4 _), ?_⟩
  replace h := zq_nx1 (q := 28) h rfl
  refine ⟨zq_k_s2 167 (fun z => .goto z) 4 h rfl (zq_o_167 _) (by decide +kernel), ?_⟩
  replace h := zq_nx3 (q := 31) h rfl
  refine ⟨zq_k_n 3 h rfl (zq_o_3 _), ?_⟩
  replace h := zq_nx1 (q := 32) h rfl
  refine ⟨zq_k_n 62 h rfl (zq_o_62 _), ?_⟩
  replace h := zq_nx1 (q := 33) h rfl
  refine ⟨zq_k_n 27 h rfl (zq_o_27 _), ?_⟩
  replace h := zq_nx1 (q := 34) h rfl
  refine ⟨zq_k_s2 153 (fun z => .ifCond .eq z) 9 h rfl (zq_o_153 _) (by decide +kernel), ?_⟩
  replace h := zq_nx3 (q := 37) h rfl
  exact zq_k_n 29 h rfl (zq_o_29 _)
set_option maxRecDepth 100000 in
theorem dd_Q_rota_38 : (decode prog_1_method_22_code 38 = .ok (.ifCond .ne 5, 3)) ∧ (decode prog_1_method_22_code 41 = .ok (.iconst (-1), 1)) ∧ (decode prog_1_method_22_code 42 = .ok (.ireturn, 1)) ∧ (decode prog_1_method_22_code 43 = .ok (.aload_n 0, 1)) ∧ (decode prog_1_method_22_code 44 = .ok (.getfield 43, 3)) ∧ (decode prog_1_method_22_code 47 = .ok (.aload_n 0, 1)) ∧ (decode prog_1_method_22_code 48 = .ok (.getfield 19, 3)) ∧ (decode prog_1_method_22_code 51 = .ok (.invokevirtual 195, 3)) ∧ (decode prog_1_method_22_code 54 = .ok (.aload_n 0, 1)) ∧ (decode prog_1_method_22_code 55 = .ok (.getfield 43, 3)) ∧ (decode prog_1_method_22_code 58 = .ok (.invokevirtual 198, 3)) ∧ (decode prog_1_method_22_code 61 = .ok (.istore 4, 2)) ∧ (decode prog_1_method_22_code 63 = .ok (.iload 4, 2)) ∧ (decode prog_1_method_22_code 65 = .ok (.bipush (-4), 2)) ∧ (decode prog_1_method_22_code 67 = .ok (.if_icmp .eq 7, 3)) ∧ (decode prog_1_method_22_code 70 = .ok (.iload_n 1, 1)) ∧ (decode prog_1_method_22_code 71 = .ok (.ifCond .ne 6, 3)) ∧ (decode prog_1_method_22_code 74 = .ok (.iload 4, 2)) ∧ (decode prog_1_method_22_code 76 = .ok (.ireturn, 1)) ∧ (decode prog_1_method_22_code 77 = .ok (.aload_n 0, 1)) ∧ (decode prog_1_method_22_code 78 = .ok (.getfield 43, 3)) ∧ (decode prog_1_method_22_code 81 = .ok (.iload_n 2, 1)) ∧ (decode prog_1_method_22_code 82 = .ok (.iconst 3, 1)) ∧ (decode prog_1_method_22_code 83 = .ok (.irem, 1)) := by
  have h : List.drop 38 prog_1_method_22_code.data.toList = 0x9a :: _ := rfl
  refine ⟨zq_k_s2 154 (fun z => .ifCond .ne z) 5 h rfl (zq_o_154 _) (by decide +kernel), ?_⟩
  replace h := zq_nx3 (q := 41) h rfl
  refine ⟨zq_k_n 2 h rfl (zq_o_2 _), ?_⟩
  replace h := zq_nx1 (q := 42) h rfl
  refine ⟨zq_k_n 172 h rfl (zq_o_172 _), ?_⟩
  replace h := zq_nx1 (q := 43) h rfl
  refine ⟨zq_k_n 42 h rfl (zq_o_42 _), ?_⟩
  replace h := zq_nx1 (q := 44) h rfl
  refine ⟨zq_k_u2 180 (fun z => .getfield z) 43 h rfl (zq_o_180 _) (by decide +kernel), ?_⟩
  replace h := zq_nx3 (q := 47) h rfl
  refine ⟨zq_k_n 42 h rfl (zq_o_42 _), ?_⟩
  replace h := zq_nx1 (q := 48) h rfl
  refine ⟨zq_k_u2 180 (fun z => .getfield z) 19 h rfl (zq_o_180 _) (by decide +kernel), ?_⟩
  replace h := zq_nx3 (q := 51) h rfl
  refine ⟨zq_k_u2 182 (fun z => .invokevirtual z) 195 h rfl (zq_o_182 _) (by decide +kernel), ?_⟩
  replace h := zq_nx3 (q := 54) h rfl
  refine ⟨zq_k_n 42 h rfl (zq_o_42 _), ?_⟩
  replace h := zq_nx1 (q := 55) h rfl
  refine ⟨zq_k_u2 180 (fun z => .getfield z) 43 h rfl (zq_o_180 _) (by decide +kernel), ?_⟩
  replace h := zq_nx3 (q := 58) h rfl
  refine ⟨zq_k_u2 182 (fun z => .invokevirtual z) 198 h rfl (zq_o_182 _) (by decide +kernel), ?_⟩
  replace h := zq_nx3 (q := 61) h rfl
  refine ⟨zq_k_u1 54 (fun z => .istore z) 4 h rfl (zq_o_54 _) (by decide +kernel), ?_⟩
  replace h := zq_nx2 (q := 63) h rfl
  refine ⟨zq_k_u1 21 (fun z => .iload z) 4 h rfl (zq_o_21 _) (by decide +kernel), ?_⟩
  replace h := zq_nx2 (q := 65) h rfl
  refine ⟨zq_k_s1 16 (fun z => .bipush z) (-4) h rfl (zq_o_16 _) (by decide +kernel), ?_⟩
  replace h := zq_nx2 (q := 67) h rfl
  refine ⟨zq_k_s2 159 (fun z => .if_icmp .eq z) 7 h rfl (zq_o_159 _) (by decide +kernel), ?_⟩
  replace h := zq_nx3 (q := 70) h rfl
  refine ⟨zq_k_n 27 h rfl (zq_o_27 _), ?_⟩
  replace h := zq_nx1 (q := 71) h rfl
  refine ⟨zq_k_s2 154 (fun z => .ifCond .ne z) 6 h rfl (zq_o_154 _) (by decide +kernel), ?_⟩
  replace h := zq_nx3 (q := 74) h rfl
  refine ⟨zq_k_u1 21 (fun z => .iload z) 4 h rfl (zq_o_21 _) (by decide +kernel), ?_⟩
  replace h := zq_nx2 (q := 76) h rfl
  refine ⟨zq_k_n 172 h rfl (zq_o_172 _), ?_⟩
  replace h := zq_nx1 (q := 77) h rfl
  refine ⟨zq_k_n 42 h rfl (zq_o_42 _), ?_⟩
  replace h := zq_nx1 (q := 78) h rfl
  refine ⟨zq_k_u2 180 (fun z => .getfield z) 43 h rfl (zq_o_180 _) (by decide +kernel), ?_⟩
  replace h := zq_nx3 (q := 81) h rfl
  refine ⟨zq_k_n 28 h rfl (zq_o_28 _), ?_⟩
  replace h := zq_nx1 (q := 82) h rfl
  refine ⟨zq_k_n 6 h rfl (zq_o_6 _), ?_⟩
  replace h := zq_nx1 (q := 83) h rfl
  exact zq_k_n 112 h rfl (zq_o_112 _)
set_option maxRecDepth 100000 in
theorem dd_Q_rota_84 : (decode prog_1_method_22_code 84 = .ok (.iload_n 2, 1)) ∧ (decode prog_1_method_22_code 85 = .ok (.iconst 3, 1)) ∧ (decode prog_1_method_22_code 86 = .ok (.idiv, 1)) ∧ (decode prog_1_method_22_code 87 = .ok (.invokevirtual 201, 3)) ∧ (decode prog_1_method_22_code 90 = .ok (.ireturn, 1)) := by
  have h : List.drop 84 prog_1_method_22_code.data.toList = 0x1c :: _ := rfl
  refine ⟨zq_k_n 28 h rfl (zq_o_28 _), ?_⟩
  replace h := zq_nx1 (q := 85) h rfl
  refine ⟨zq_k_n 6 h rfl (zq_o_6 _), ?_⟩
  replace h := zq_nx1 (q := 86) h rfl
  refine ⟨zq_k_n 108 h rfl (zq_o_108 _), ?_⟩
  replace h := zq_nx1 (q := 87) h rfl
  refine ⟨zq_k_u2 182 (fun z => .invokevirtual z) 201 h rfl (zq_o_182 _) (by decide +kernel), ?_⟩
  replace h := zq_nx3 (q := 90) h rfl
  exact zq_k_n 172 h rfl (zq_o_172 _)
def f_Q_rota_74  (b4 : Int32) (h : mH) : Option (Int32 × mH) :=
  some (b4, h)
set_option maxRecDepth 20000 in
theorem t_Q_rota_74 {sc : Nat × (Nat → Int32)}  (b4 : Int32) (h : mH) (r : Int32) (h' : mH) (hf : f_Q_rota_74  b4 h = some (r, h')) : G sc y_Q_rota prog_1_method_22_code 5 (some .int) 3 79 74 [(4, .int b4)] [] h (some (.int r)) h' := by
  unfold f_Q_rota_74 at hf
  refine g_iload (pc := 74) 0 dd_Q_rota_38.2.2.2.2.2.2.2.2.2.2.2.2.2.2.2.2.2.1 rfl ?_
  obtain ⟨rfl, rfl⟩ := ret2 hf
  exact g_iret (pc := 76) rfl dd_Q_rota_38.2.2.2.2.2.2.2.2.2.2.2.2.2.2.2.2.2.2.1
def f_Q_rota_43  (b0 : Nat) (b1 : Int32) (b2 : Int32) (h : mH) : Option (Int32 × mH) :=
  bd1 (gR h b0 0 6) fun x12 =>
  bd1 (gR h b0 0 1) fun x14 =>
  bd1 (kC h x12 2) fun _ =>
  bd1 (f_Planner_load x12 x14 h) fun h18 =>
  bd1 (gR h18 b0 0 6) fun x20 =>
  bd1 (kC h18 x20 2) fun _ =>
  bd2 (f_Planner_leastHarm x20 h18) fun x26 h24 =>
  if x26 = ((-4) : Int32) then
    f_Q_rota_74  x26 h24
  else
    if b1 = 0 then
      f_Q_rota_74  x26 h24
    else
      bd1 (gR h24 b0 0 6) fun x27 =>
      bd1 (kC h24 x27 2) fun _ =>
      bd2 (f_Planner_timesInFirst x27 (b2 - b2 / (3 : Int32) * (3 : Int32)) (b2 / (3 : Int32)) h24) fun x33 h31 =>
      some (x33, h31)
set_option maxRecDepth 20000 in
theorem t_Q_rota_43 {sc : Nat × (Nat → Int32)}  (b0 : Nat) (b1 : Int32) (b2 : Int32) (h : mH) (r : Int32) (h' : mH) (hf : f_Q_rota_43  b0 b1 b2 h = some (r, h')) : G sc y_Q_rota prog_1_method_22_code 5 (some .int) 3 79 43 [(0, .ref b0), (1, .int b1), (2, .int b2)] [] h (some (.int r)) h' := by
  unfold f_Q_rota_43 at hf
  refine g_aload_n (pc := 43) 0 dd_Q_rota_38.2.2.2.1 rfl rfl ?_
  obtain ⟨x12, e13, hf⟩ := bd1_e hf
  refine g_get (pc := 44) (ci := 0) (kk := 6) dd_Q_rota_38.2.2.2.2.1 rfl in_Q (by decide) wd_302 (gR_spec e13) ?_
  refine g_aload_n (pc := 47) 0 dd_Q_rota_38.2.2.2.2.2.1 rfl rfl ?_
  obtain ⟨x14, e15, hf⟩ := bd1_e hf
  refine g_get (pc := 48) (ci := 0) (kk := 1) dd_Q_rota_38.2.2.2.2.2.2.1 rfl in_Q (by decide) wd_297 (gR_spec e15) ?_
  obtain ⟨u17, e16, hf⟩ := bd1_e hf
  obtain ⟨h18, e19, hf⟩ := bd1_e hf
  refine g_callV (pc := 51) (ci := 2) [.ref x14] (site_of si_Planner_load (by decide) (by decide)) wd_661 wd_662 wd_663 dd_Q_rota_38.2.2.2.2.2.2.2.1 rfl e16 (Nat.le_of_ble_eq_true rfl) (fun z => absurd z si_na_Planner_load) (fun z => absurd z si_na_Planner_load) (fun z => absurd z si_na_Planner_load) (c_Planner_load e19) rfl ?_
  refine g_st [] rfl ?_
  refine g_aload_n (pc := 54) 0 dd_Q_rota_38.2.2.2.2.2.2.2.2.1 rfl rfl ?_
  obtain ⟨x20, e21, hf⟩ := bd1_e hf
  refine g_get (pc := 55) (ci := 0) (kk := 6) dd_Q_rota_38.2.2.2.2.2.2.2.2.2.1 rfl in_Q (by decide) wd_302 (gR_spec e21) ?_
  obtain ⟨u23, e22, hf⟩ := bd1_e hf
  obtain ⟨x26, h24, e25, hf⟩ := bd2_e hf
  refine g_callV (pc := 58) (ci := 2) [] (site_of si_Planner_leastHarm (by decide) (by decide)) wd_670 wd_671 wd_672 dd_Q_rota_38.2.2.2.2.2.2.2.2.2.2.1 rfl e22 (Nat.le_of_ble_eq_true rfl) (fun z => absurd z si_na_Planner_leastHarm) (fun z => absurd z si_na_Planner_leastHarm) (fun z => absurd z si_na_Planner_leastHarm) (c_Planner_leastHarm e25) rfl ?_
  refine g_st [.int x26] rfl ?_
  refine g_istore (pc := 61) [(4, .int x26), (0, .ref b0), (1, .int b1), (2, .int b2)] dd_Q_rota_38.2.2.2.2.2.2.2.2.2.2.2.1 (Nat.le_of_ble_eq_true rfl) rfl ?_
  refine g_iload (pc := 63) 0 dd_Q_rota_38.2.2.2.2.2.2.2.2.2.2.2.2.1 rfl ?_
  refine g_bipush (pc := 65) ((-4) : Int32) dd_Q_rota_38.2.2.2.2.2.2.2.2.2.2.2.2.2.1 (by decide) ?_
  refine g_icmpeq (pc := 67) 74 dd_Q_rota_38.2.2.2.2.2.2.2.2.2.2.2.2.2.2.1 (by decide) (fun c35 => ?_) (fun c35 => ?_)
  · replace hf := (if_pos c35).symm.trans hf
    refine g_lv [0] rfl ?_
    exact t_Q_rota_74  _ _ _ _  hf
  · replace hf := (if_neg c35).symm.trans hf
    refine g_iload_n (pc := 70) 2 dd_Q_rota_38.2.2.2.2.2.2.2.2.2.2.2.2.2.2.2.1 rfl rfl ?_
    refine g_ifne (pc := 71) 77 dd_Q_rota_38.2.2.2.2.2.2.2.2.2.2.2.2.2.2.2.2.1 (by decide) (fun c34 => ?_) (fun c34 => ?_)
    · replace hf := (if_neg c34).symm.trans hf
      refine g_aload_n (pc := 77) 1 dd_Q_rota_38.2.2.2.2.2.2.2.2.2.2.2.2.2.2.2.2.2.2.2.1 rfl rfl ?_
      obtain ⟨x27, e28, hf⟩ := bd1_e hf
      refine g_get (pc := 78) (ci := 0) (kk := 6) dd_Q_rota_38.2.2.2.2.2.2.2.2.2.2.2.2.2.2.2.2.2.2.2.2.1 rfl in_Q (by decide) wd_302 (gR_spec e28) ?_
      refine g_iload_n (pc := 81) 3 dd_Q_rota_38.2.2.2.2.2.2.2.2.2.2.2.2.2.2.2.2.2.2.2.2.2.1 rfl rfl ?_
      refine g_iconst (pc := 82) (3 : Int32) dd_Q_rota_38.2.2.2.2.2.2.2.2.2.2.2.2.2.2.2.2.2.2.2.2.2.2.1 (by decide) ?_
      refine g_irem (pc := 83) dd_Q_rota_38.2.2.2.2.2.2.2.2.2.2.2.2.2.2.2.2.2.2.2.2.2.2.2 (by decide) ?_
      refine g_iload_n (pc := 84) 3 dd_Q_rota_84.1 rfl rfl ?_
      refine g_iconst (pc := 85) (3 : Int32) dd_Q_rota_84.2.1 (by decide) ?_
      refine g_idiv (pc := 86) dd_Q_rota_84.2.2.1 (by decide) ?_
      obtain ⟨u30, e29, hf⟩ := bd1_e hf
      obtain ⟨x33, h31, e32, hf⟩ := bd2_e hf
      refine g_callV (pc := 87) (ci := 2) [.int (b2 - b2 / (3 : Int32) * (3 : Int32)), .int (b2 / (3 : Int32))] (site_of si_Planner_timesInFirst (by decide) (by decide)) wd_688 wd_689 wd_690 dd_Q_rota_84.2.2.2.1 rfl e29 (Nat.le_of_ble_eq_true rfl) (fun z => absurd z si_na_Planner_timesInFirst) (fun z => absurd z si_na_Planner_timesInFirst) (fun z => absurd z si_na_Planner_timesInFirst) (c_Planner_timesInFirst e32) rfl ?_
      refine g_st [.int x33] rfl ?_
      obtain ⟨rfl, rfl⟩ := ret2 hf
      exact g_iret (pc := 90) rfl dd_Q_rota_84.2.2.2.2
    · replace hf := (if_pos c34).symm.trans hf
      refine g_lv [0] rfl ?_
      exact t_Q_rota_74  _ _ _ _  hf
def f_Q_rota_32  (b0 : Nat) (b1 : Int32) (b2 : Int32) (s0 : Int32) (h : mH) : Option (Int32 × mH) :=
  if b1 = 0 then
    f_Q_rota_43  b0 b1 b2 h
  else
    if s0 = 0 then
      some (((-1) : Int32), h)
    else
      f_Q_rota_43  b0 b1 b2 h
set_option maxRecDepth 20000 in
theorem t_Q_rota_32 {sc : Nat × (Nat → Int32)}  (b0 : Nat) (b1 : Int32) (b2 : Int32) (s0 : Int32) (h : mH) (r : Int32) (h' : mH) (hf : f_Q_rota_32  b0 b1 b2 s0 h = some (r, h')) : G sc y_Q_rota prog_1_method_22_code 5 (some .int) 3 79 32 [(0, .ref b0), (1, .int b1), (2, .int b2)] [.int s0] h (some (.int r)) h' := by
  unfold f_Q_rota_32 at hf
  refine g_istore_n (pc := 32) [(3, .int s0), (0, .ref b0), (1, .int b1), (2, .int b2)] dd_Q_rota_0.2.2.2.2.2.2.2.2.2.2.2.2.2.2.2.2.2.2.2.2.1 rfl (Nat.le_of_ble_eq_true rfl) rfl ?_
  refine g_iload_n (pc := 33) 2 dd_Q_rota_0.2.2.2.2.2.2.2.2.2.2.2.2.2.2.2.2.2.2.2.2.2.1 rfl rfl ?_
  refine g_ifeq (pc := 34) 43 dd_Q_rota_0.2.2.2.2.2.2.2.2.2.2.2.2.2.2.2.2.2.2.2.2.2.2.1 (by decide) (fun c11 => ?_) (fun c11 => ?_)
  · replace hf := (if_pos c11).symm.trans hf
    refine g_lv [1, 2, 3] rfl ?_
    exact t_Q_rota_43  _ _ _ _ _ _  hf
  · replace hf := (if_neg c11).symm.trans hf
    refine g_iload_n (pc := 37) 0 dd_Q_rota_0.2.2.2.2.2.2.2.2.2.2.2.2.2.2.2.2.2.2.2.2.2.2.2 rfl rfl ?_
    refine g_ifne (pc := 38) 43 dd_Q_rota_38.1 (by decide) (fun c10 => ?_) (fun c10 => ?_)
    · replace hf := (if_neg c10).symm.trans hf
      refine g_lv [1, 2, 3] rfl ?_
      exact t_Q_rota_43  _ _ _ _ _ _  hf
    · replace hf := (if_pos c10).symm.trans hf
      refine g_iconst (pc := 41) ((-1) : Int32) dd_Q_rota_38.2.1 (by decide) ?_
      obtain ⟨rfl, rfl⟩ := ret2 hf
      exact g_iret (pc := 42) rfl dd_Q_rota_38.2.2.1
def f_Q_rota_31  (b0 : Nat) (b1 : Int32) (b2 : Int32) (h : mH) : Option (Int32 × mH) :=
  f_Q_rota_32  b0 b1 b2 (0 : Int32) h
set_option maxRecDepth 20000 in
theorem t_Q_rota_31 {sc : Nat × (Nat → Int32)}  (b0 : Nat) (b1 : Int32) (b2 : Int32) (h : mH) (r : Int32) (h' : mH) (hf : f_Q_rota_31  b0 b1 b2 h = some (r, h')) : G sc y_Q_rota prog_1_method_22_code 5 (some .int) 3 79 31 [(0, .ref b0), (1, .int b1), (2, .int b2)] [] h (some (.int r)) h' := by
  unfold f_Q_rota_31 at hf
  refine g_iconst (pc := 31) (0 : Int32) dd_Q_rota_0.2.2.2.2.2.2.2.2.2.2.2.2.2.2.2.2.2.2.2.1 (by decide) ?_
  refine g_lv [0, 1, 2] rfl ?_
  exact t_Q_rota_32  _ _ _ _ _ _ _  hf
def f_Q_rota_0  (a0 : Nat) (a1 : Int32) (h : mH) : Option (Int32 × mH) :=
  if a1 < (10 : Int32) then
    f_Q_rota_31  a0 a1 (a1 - (10 : Int32)) h
  else
    bd1 (gR h a0 0 1) fun x1 =>
    bd1 (kC h x1 4) fun _ =>
    bd2 (f_Realm_hasBoth x1 ((a1 - (10 : Int32)) - (a1 - (10 : Int32)) / (3 : Int32) * (3 : Int32)) ((a1 - (10 : Int32)) / (3 : Int32)) h) fun x7 h5 =>
    if x7 = 0 then
      f_Q_rota_31  a0 a1 (a1 - (10 : Int32)) h5
    else
      f_Q_rota_32  a0 a1 (a1 - (10 : Int32)) (1 : Int32) h5
set_option maxRecDepth 20000 in
theorem t_Q_rota_0 {sc : Nat × (Nat → Int32)}  (a0 : Nat) (a1 : Int32) (h : mH) (r : Int32) (h' : mH) (hf : f_Q_rota_0  a0 a1 h = some (r, h')) : G sc y_Q_rota prog_1_method_22_code 5 (some .int) 3 79 0 [(0, .ref a0), (1, .int a1)] [] h (some (.int r)) h' := by
  unfold f_Q_rota_0 at hf
  refine g_iload_n (pc := 0) 1 dd_Q_rota_0.1 rfl rfl ?_
  refine g_bipush (pc := 1) (10 : Int32) dd_Q_rota_0.2.1 (by decide) ?_
  refine g_isub (pc := 3) dd_Q_rota_0.2.2.1 ?_
  refine g_istore_n (pc := 4) [(2, .int (a1 - (10 : Int32))), (0, .ref a0), (1, .int a1)] dd_Q_rota_0.2.2.2.1 rfl (Nat.le_of_ble_eq_true rfl) rfl ?_
  refine g_iload_n (pc := 5) 2 dd_Q_rota_0.2.2.2.2.1 rfl rfl ?_
  refine g_bipush (pc := 6) (10 : Int32) dd_Q_rota_0.2.2.2.2.2.1 (by decide) ?_
  refine g_icmplt (pc := 8) 31 dd_Q_rota_0.2.2.2.2.2.2.1 (by decide) (fun c9 => ?_) (fun c9 => ?_)
  · replace hf := (if_pos c9).symm.trans hf
    refine g_lv [1, 2, 0] rfl ?_
    exact t_Q_rota_31  _ _ _ _ _ _  hf
  · replace hf := (if_neg c9).symm.trans hf
    refine g_aload_n (pc := 11) 1 dd_Q_rota_0.2.2.2.2.2.2.2.1 rfl rfl ?_
    obtain ⟨x1, e2, hf⟩ := bd1_e hf
    refine g_get (pc := 12) (ci := 0) (kk := 1) dd_Q_rota_0.2.2.2.2.2.2.2.2.1 rfl in_Q (by decide) wd_297 (gR_spec e2) ?_
    refine g_iload_n (pc := 15) 0 dd_Q_rota_0.2.2.2.2.2.2.2.2.2.1 rfl rfl ?_
    refine g_iconst (pc := 16) (3 : Int32) dd_Q_rota_0.2.2.2.2.2.2.2.2.2.2.1 (by decide) ?_
    refine g_irem (pc := 17) dd_Q_rota_0.2.2.2.2.2.2.2.2.2.2.2.1 (by decide) ?_
    refine g_iload_n (pc := 18) 0 dd_Q_rota_0.2.2.2.2.2.2.2.2.2.2.2.2.1 rfl rfl ?_
    refine g_iconst (pc := 19) (3 : Int32) dd_Q_rota_0.2.2.2.2.2.2.2.2.2.2.2.2.2.1 (by decide) ?_
    refine g_idiv (pc := 20) dd_Q_rota_0.2.2.2.2.2.2.2.2.2.2.2.2.2.2.1 (by decide) ?_
    obtain ⟨u4, e3, hf⟩ := bd1_e hf
    obtain ⟨x7, h5, e6, hf⟩ := bd2_e hf
    refine g_callV (pc := 21) (ci := 4) [.int ((a1 - (10 : Int32)) - (a1 - (10 : Int32)) / (3 : Int32) * (3 : Int32)), .int ((a1 - (10 : Int32)) / (3 : Int32))] (site_of si_Realm_hasBoth (by decide) (by decide)) wd_570 wd_571 wd_572 dd_Q_rota_0.2.2.2.2.2.2.2.2.2.2.2.2.2.2.2.1 rfl e3 (Nat.le_of_ble_eq_true rfl) (fun z => absurd z si_na_Realm_hasBoth) (fun z => absurd z si_na_Realm_hasBoth) (fun z => absurd z si_na_Realm_hasBoth) (c_Realm_hasBoth e6) rfl ?_
    refine g_st [.int x7] rfl ?_
    refine g_ifeq (pc := 24) 31 dd_Q_rota_0.2.2.2.2.2.2.2.2.2.2.2.2.2.2.2.2.1 (by decide) (fun c8 => ?_) (fun c8 => ?_)
    · replace hf := (if_pos c8).symm.trans hf
      refine g_lv [1, 2, 0] rfl ?_
      exact t_Q_rota_31  _ _ _ _ _ _  hf
    · replace hf := (if_neg c8).symm.trans hf
      refine g_iconst (pc := 27) (1 : Int32) dd_Q_rota_0.2.2.2.2.2.2.2.2.2.2.2.2.2.2.2.2.2.1 (by decide) ?_
      refine g_goto (pc := 28) 32 dd_Q_rota_0.2.2.2.2.2.2.2.2.2.2.2.2.2.2.2.2.2.2.1 (by decide) ?_
      refine g_lv [1, 2, 0] rfl ?_
      exact t_Q_rota_32  _ _ _ _ _ _ _  hf
def f_Q_rota (a0 : Nat) (a1 : Int32) (h : mH) : Option (Int32 × mH) := f_Q_rota_0 a0 a1 h
theorem c_Q_rota {sc : Nat × (Nat → Int32)} {a0 : Nat} {a1 : Int32} {h : mH} {r : Int32} {h' : mH} (hf : f_Q_rota a0 a1 h = some (r, h')) : MM sc y_Q_rota prog_1_method_22_code 5 (some .int) 3 79 [.ref a0, .int a1] h (some (.int r)) h' :=
  mm_of_G si_pn_Q (Nat.le_of_ble_eq_true rfl) (t_Q_rota_0 _ _ _ _ _ hf)
/-! Planner grant (II)V -/
set_option maxRecDepth 100000 in
theorem dd_Planner_grant_0 : (decode prog_3_method_3_code 0 = .ok (.aload_n 0, 1)) ∧ (decode prog_3_method_3_code 1 = .ok (.getfield 9, 3)) ∧ (decode prog_3_method_3_code 4 = .ok (.iload_n 1, 1)) ∧ (decode prog_3_method_3_code 5 = .ok (.iconst 0, 1)) ∧ (decode prog_3_method_3_code 6 = .ok (.iload_n 2, 1)) ∧ (decode prog_3_method_3_code 7 = .ok (.invokestatic 68, 3)) ∧ (decode prog_3_method_3_code 10 = .ok (.iastore, 1)) ∧ (decode prog_3_method_3_code 11 = .ok (.return_, 1)) := by
  have h : List.drop 0 prog_3_method_3_code.data.toList = 0x2a :: _ := rfl
  refine ⟨zq_k_n 42 h rfl (zq_o_42 _), ?_⟩
  replace h := zq_nx1 (q := 1) h rfl
  refine ⟨zq_k_u2 180 (fun z => .getfield z) 9 h rfl (zq_o_180 _) (by decide +kernel), ?_⟩
  replace h := zq_nx3 (q := 4) h rfl
  refine ⟨zq_k_n 27 h rfl (zq_o_27 _), ?_⟩
  replace h := zq_nx1 (q := 5) h rfl
  refine ⟨zq_k_n 3 h rfl (zq_o_3 _), ?_⟩
  replace h := zq_nx1 (q := 6) h rfl
  refine ⟨zq_k_n 28 h rfl (zq_o_28 _), ?_⟩
  replace h := zq_nx1 (q := 7) h rfl
  refine ⟨zq_k_u2 184 (fun z => .invokestatic z) 68 h rfl (zq_o_184 _) (by decide +kernel), ?_⟩
  replace h := zq_nx3 (q := 10) h rfl
  refine ⟨zq_k_n 79 h rfl (zq_o_79 _), ?_⟩
  replace h := zq_nx1 (q := 11) h rfl
  exact zq_k_n 177 h rfl (zq_o_177 _)
def f_Planner_grant_0  (a0 : Nat) (a1 : Int32) (a2 : Int32) (h : mH) : Option mH :=
  bd1 (gR h a0 2 1) fun x1 =>
  bd1 (sI h 0 x1 a1 (if (0 : Int32) < a2 then a2 else (0 : Int32))) fun h3 =>
  some h3
set_option maxRecDepth 20000 in
theorem t_Planner_grant_0 {sc : Nat × (Nat → Int32)}  (a0 : Nat) (a1 : Int32) (a2 : Int32) (h : mH) (h' : mH) (hf : f_Planner_grant_0  a0 a1 a2 h = some h') : G sc y_Planner_grant prog_3_method_3_code 3 none 1 21 0 [(0, .ref a0), (1, .int a1), (2, .int a2)] [] h none h' := by
  unfold f_Planner_grant_0 at hf
  refine g_aload_n (pc := 0) 0 dd_Planner_grant_0.1 rfl rfl ?_
  obtain ⟨x1, e2, hf⟩ := bd1_e hf
  refine g_get (pc := 1) (ci := 2) (kk := 1) dd_Planner_grant_0.2.1 rfl in_Planner (by decide) wd_205 (gR_spec e2) ?_
  refine g_iload_n (pc := 4) 1 dd_Planner_grant_0.2.2.1 rfl rfl ?_
  refine g_iconst (pc := 5) (0 : Int32) dd_Planner_grant_0.2.2.2.1 (by decide) ?_
  refine g_iload_n (pc := 6) 2 dd_Planner_grant_0.2.2.2.2.1 rfl rfl ?_
  refine g_mmax (pc := 7) dd_Planner_grant_0.2.2.2.2.2.1 wd_700 wd_530 wd_16 wd_531 (by decide) (Nat.le_of_ble_eq_true rfl) ?_
  obtain ⟨h3, e4, hf⟩ := bd1_e hf
  refine g_iast (pc := 10) dd_Planner_grant_0.2.2.2.2.2.2.1 e4 ?_
  obtain rfl := ret1 hf
  exact g_vret (pc := 11) rfl dd_Planner_grant_0.2.2.2.2.2.2.2
def f_Planner_grant (a0 : Nat) (a1 : Int32) (a2 : Int32) (h : mH) : Option mH := f_Planner_grant_0 a0 a1 a2 h
theorem c_Planner_grant {sc : Nat × (Nat → Int32)} {a0 : Nat} {a1 : Int32} {a2 : Int32} {h : mH} {h' : mH} (hf : f_Planner_grant a0 a1 a2 h = some h') : MM sc y_Planner_grant prog_3_method_3_code 3 none 1 21 [.ref a0, .int a1, .int a2] h none h' :=
  mm_of_G si_pn_Planner (Nat.le_of_ble_eq_true rfl) (t_Planner_grant_0 _ _ _ _ _ hf)
/-! Planner needOfAll (I)I -/
set_option maxRecDepth 100000 in
theorem dd_Planner_needOfAll_0 : (decode prog_3_method_5_code 0 = .ok (.iconst 0, 1)) ∧ (decode prog_3_method_5_code 1 = .ok (.istore_n 2, 1)) ∧ (decode prog_3_method_5_code 2 = .ok (.iconst 0, 1)) ∧ (decode prog_3_method_5_code 3 = .ok (.istore_n 3, 1)) ∧ (decode prog_3_method_5_code 4 = .ok (.iload_n 3, 1)) ∧ (decode prog_3_method_5_code 5 = .ok (.aload_n 0, 1)) ∧ (decode prog_3_method_5_code 6 = .ok (.getfield 39, 3)) ∧ (decode prog_3_method_5_code 9 = .ok (.if_icmp .ge 30, 3)) ∧ (decode prog_3_method_5_code 12 = .ok (.iload_n 2, 1)) ∧ (decode prog_3_method_5_code 13 = .ok (.iload_n 1, 1)) ∧ (decode prog_3_method_5_code 14 = .ok (.iload_n 3, 1)) ∧ (decode prog_3_method_5_code 15 = .ok (.invokestatic 83, 3)) ∧ (decode prog_3_method_5_code 18 = .ok (.ifCond .eq 12, 3)) ∧ (decode prog_3_method_5_code 21 = .ok (.aload_n 0, 1)) ∧ (decode prog_3_method_5_code 22 = .ok (.getfield 15, 3)) ∧ (decode prog_3_method_5_code 25 = .ok (.iload_n 3, 1)) ∧ (decode prog_3_method_5_code 26 = .ok (.iaload, 1)) ∧ (decode prog_3_method_5_code 27 = .ok (.goto 4, 3)) ∧ (decode prog_3_method_5_code 30 = .ok (.iconst 0, 1)) ∧ (decode prog_3_method_5_code 31 = .ok (.iadd, 1)) ∧ (decode prog_3_method_5_code 32 = .ok (.istore_n 2, 1)) ∧ (decode prog_3_method_5_code 33 = .ok (.iinc 3 1, 3)) ∧ (decode prog_3_method_5_code 36 = .ok (.goto (-32), 3)) ∧ (decode prog_3_method_5_code 39 = .ok (.iload_n 2, 1)) := by
  have h : List.drop 0 prog_3_method_5_code.data.toList = 0x03 :: _ := rfl
  refine ⟨zq_k_n 3 h rfl (zq_o_3 _), ?_⟩
  replace h := zq_nx1 (q := 1) h rfl
  refine ⟨zq_k_n 61 h rfl (zq_o_61 _), ?_⟩
  replace h := zq_nx1 (q := 2) h rfl
  refine ⟨zq_k_n 3 h rfl (zq_o_3 _), ?_⟩
  replace h := zq_nx1 (q := 3) h rfl
  refine ⟨zq_k_n 62 h rfl (zq_o_62 _), ?_⟩
  replace h := zq_nx1 (q := 4) h rfl
  refine ⟨zq_k_n 29 h rfl (zq_o_29 _), ?_⟩
  replace h := zq_nx1 (q := 5) h rfl
  refine ⟨zq_k_n 42 h rfl (zq_o_42 _), ?_⟩
  replace h := zq_nx1 (q := 6) h rfl
  refine ⟨zq_k_u2 180 (fun z => .getfield z) 39 h rfl (zq_o_180 _) (by decide +kernel), ?_⟩
  replace h := zq_nx3 (q := 9) h rfl
  refine ⟨zq_k_s2 162 (fun z => .if_icmp .ge z) 30 h rfl (zq_o_162 _) (by decide +kernel), ?_⟩
  replace h := zq_nx3 (q := 12) h rfl
  refine ⟨zq_k_n 28 h rfl (zq_o_28 _), ?_⟩
  replace h := zq_nx1 (q := 13) h rfl
  refine ⟨zq_k_n 27 h rfl (zq_o_27 _), ?_⟩
  replace h := zq_nx1 (q := 14) h rfl
  refine ⟨zq_k_n 29 h rfl (zq_o_29 _), ?_⟩
  replace h := zq_nx1 (q := 15) h rfl
  refine ⟨zq_k_u2 184 (fun z => .invokestatic z) 83 h rfl (zq_o_184 _) (by decide +kernel), ?_⟩
  replace h := zq_nx3 (q := 18) h rfl
  refine ⟨zq_k_s2 153 (fun z => .ifCond .eq z) 12 h rfl (zq_o_153 _) (by decide +kernel), ?_⟩
  replace h := zq_nx3 (q := 21) h rfl
  refine ⟨zq_k_n 42 h rfl (zq_o_42 _), ?_⟩
  replace h := zq_nx1 (q := 22) h rfl
  refine ⟨zq_k_u2 180 (fun z => .getfield z) 15 h rfl (zq_o_180 _) (by decide +kernel), ?_⟩
  replace h := zq_nx3 (q := 25) h rfl
  refine ⟨zq_k_n 29 h rfl (zq_o_29 _), ?_⟩
  replace h := zq_nx1 (q := 26) h rfl
  refine ⟨zq_k_n 46 h rfl (zq_o_46 _), ?_⟩
  replace h := zq_nx1 (q := 27) h rfl
  refine ⟨zq_k_s2 167 (fun z => .goto z) 4 h rfl (zq_o_167 _) (by decide +kernel), ?_⟩
  replace h := zq_nx3 (q := 30) h rfl
  refine ⟨zq_k_n 3 h rfl (zq_o_3 _), ?_⟩
  replace h := zq_nx1 (q := 31) h rfl
  refine ⟨zq_k_n 96 h rfl (zq_o_96 _), ?_⟩
  replace h := zq_nx1 (q := 32) h rfl
  refine ⟨zq_k_n 61 h rfl (zq_o_61 _), ?_⟩
  replace h := zq_nx1 (q := 33) h rfl
  refine ⟨zq_k_iinc 3 1 h rfl (zq_o_132 _) (by decide +kernel) (by decide +kernel), ?_⟩
  replace h := zq_nx3 (q := 36) h rfl
  refine ⟨zq_k_s2 167 (fun z => .goto z) (-32) h rfl (zq_o_167 _) (by decide +kernel), ?_⟩
  replace h := zq_nx3 (q := 39) h rfl
  exact zq_k_n 28 h rfl (zq_o_28 _)
set_option maxRecDepth 100000 in
theorem dd_Planner_needOfAll_40 : decode prog_3_method_5_code 40 = .ok (.ireturn, 1) := by
  have h : List.drop 40 prog_3_method_5_code.data.toList = 0xac :: _ := rfl
  exact zq_k_n 172 h rfl (zq_o_172 _)
def f_Planner_needOfAll_31 (rec4 : Nat → Int32 → Int32 → Int32 → mH → Option (Int32 × mH)) (b0 : Nat) (b1 : Int32) (b3 : Int32) (s0 : Int32) (s1 : Int32) (h : mH) : Option (Int32 × mH) :=
  rec4 b0 b1 (s0 + s1) (b3 + (1 : Int32)) h
set_option maxRecDepth 20000 in
theorem t_Planner_needOfAll_31 {sc : Nat × (Nat → Int32)} (rec4 : Nat → Int32 → Int32 → Int32 → mH → Option (Int32 × mH)) (hrec4 : ∀ (b0 : Nat) (b1 : Int32) (b2 : Int32) (b3 : Int32) (h : mH) (r : Int32) (h' : mH), rec4 b0 b1 b2 b3 h = some (r, h') → G sc y_Planner_needOfAll prog_3_method_5_code 4 (some .int) 1 21 4 [(0, .ref b0), (1, .int b1), (2, .int b2), (3, .int b3)] [] h (some (.int r)) h') (b0 : Nat) (b1 : Int32) (b3 : Int32) (s0 : Int32) (s1 : Int32) (h : mH) (r : Int32) (h' : mH) (hf : f_Planner_needOfAll_31 rec4 b0 b1 b3 s0 s1 h = some (r, h')) : G sc y_Planner_needOfAll prog_3_method_5_code 4 (some .int) 1 21 31 [(0, .ref b0), (1, .int b1), (3, .int b3)] [.int s1, .int s0] h (some (.int r)) h' := by
  unfold f_Planner_needOfAll_31 at hf
  refine g_iadd (pc := 31) dd_Planner_needOfAll_0.2.2.2.2.2.2.2.2.2.2.2.2.2.2.2.2.2.2.2.1 ?_
  refine g_istore_n (pc := 32) [(2, .int (s0 + s1)), (0, .ref b0), (1, .int b1), (3, .int b3)] dd_Planner_needOfAll_0.2.2.2.2.2.2.2.2.2.2.2.2.2.2.2.2.2.2.2.2.1 rfl (Nat.le_of_ble_eq_true rfl) rfl ?_
  refine g_iinc (pc := 33) 3 (b3 + (1 : Int32)) [(3, .int (b3 + (1 : Int32))), (2, .int (s0 + s1)), (0, .ref b0), (1, .int b1)] dd_Planner_needOfAll_0.2.2.2.2.2.2.2.2.2.2.2.2.2.2.2.2.2.2.2.2.2.1 rfl rfl (Nat.le_of_ble_eq_true rfl) rfl ?_
  refine g_goto (pc := 36) 4 dd_Planner_needOfAll_0.2.2.2.2.2.2.2.2.2.2.2.2.2.2.2.2.2.2.2.2.2.2.1 (by decide) ?_
  refine g_lv [2, 3, 1, 0] rfl ?_
  exact hrec4 _ _ _ _ _ _ _  hf
def f_Planner_needOfAll_4b (rec4 : Nat → Int32 → Int32 → Int32 → mH → Option (Int32 × mH)) (b0 : Nat) (b1 : Int32) (b2 : Int32) (b3 : Int32) (h : mH) : Option (Int32 × mH) :=
  bd1 (gI h b0 2 0) fun x1 =>
  if x1 ≤ b3 then
    some (b2, h)
  else
    bd2 (f_Q_hasBit b1 b3 h) fun x5 h3 =>
    if x5 = 0 then
      f_Planner_needOfAll_31 rec4 b0 b1 b3 b2 (0 : Int32) h3
    else
      bd1 (gR h3 b0 2 2) fun x6 =>
      bd1 (aI h3 0 x6 b3) fun x8 =>
      f_Planner_needOfAll_31 rec4 b0 b1 b3 b2 x8 h3
set_option maxRecDepth 20000 in
theorem t_Planner_needOfAll_4b {sc : Nat × (Nat → Int32)} (rec4 : Nat → Int32 → Int32 → Int32 → mH → Option (Int32 × mH)) (hrec4 : ∀ (b0 : Nat) (b1 : Int32) (b2 : Int32) (b3 : Int32) (h : mH) (r : Int32) (h' : mH), rec4 b0 b1 b2 b3 h = some (r, h') → G sc y_Planner_needOfAll prog_3_method_5_code 4 (some .int) 1 21 4 [(0, .ref b0), (1, .int b1), (2, .int b2), (3, .int b3)] [] h (some (.int r)) h') (b0 : Nat) (b1 : Int32) (b2 : Int32) (b3 : Int32) (h : mH) (r : Int32) (h' : mH) (hf : f_Planner_needOfAll_4b rec4 b0 b1 b2 b3 h = some (r, h')) : G sc y_Planner_needOfAll prog_3_method_5_code 4 (some .int) 1 21 4 [(0, .ref b0), (1, .int b1), (2, .int b2), (3, .int b3)] [] h (some (.int r)) h' := by
  unfold f_Planner_needOfAll_4b at hf
  refine g_iload_n (pc := 4) 3 dd_Planner_needOfAll_0.2.2.2.2.1 rfl rfl ?_
  refine g_aload_n (pc := 5) 0 dd_Planner_needOfAll_0.2.2.2.2.2.1 rfl rfl ?_
  obtain ⟨x1, e2, hf⟩ := bd1_e hf
  refine g_get (pc := 6) (ci := 2) (kk := 0) dd_Planner_needOfAll_0.2.2.2.2.2.2.1 rfl in_Planner (by decide) wd_204 (gI_spec e2) ?_
  refine g_icmpge (pc := 9) 39 dd_Planner_needOfAll_0.2.2.2.2.2.2.2.1 (by decide) (fun c11 => ?_) (fun c11 => ?_)
  · replace hf := (if_pos c11).symm.trans hf
    refine g_iload_n (pc := 39) 2 dd_Planner_needOfAll_0.2.2.2.2.2.2.2.2.2.2.2.2.2.2.2.2.2.2.2.2.2.2.2 rfl rfl ?_
    obtain ⟨rfl, rfl⟩ := ret2 hf
    exact g_iret (pc := 40) rfl dd_Planner_needOfAll_40
  · replace hf := (if_neg c11).symm.trans hf
    refine g_iload_n (pc := 12) 2 dd_Planner_needOfAll_0.2.2.2.2.2.2.2.2.1 rfl rfl ?_
    refine g_iload_n (pc := 13) 1 dd_Planner_needOfAll_0.2.2.2.2.2.2.2.2.2.1 rfl rfl ?_
    refine g_iload_n (pc := 14) 3 dd_Planner_needOfAll_0.2.2.2.2.2.2.2.2.2.2.1 rfl rfl ?_
    obtain ⟨x5, h3, e4, hf⟩ := bd2_e hf
    refine g_callSN (pc := 15) "QuotaLaws" [.int b1, .int b3] (site_of si_Q_hasBit (by decide) (by decide)) wd_710 wd_469 dd_Planner_needOfAll_0.2.2.2.2.2.2.2.2.2.2.2.1 (Nat.le_of_ble_eq_true rfl) (fun z => absurd z si_na_Q_hasBit) (fun z => absurd z si_na_Q_hasBit) (fun z => absurd z si_na_Q_hasBit) (c_Q_hasBit e4) rfl ?_
    refine g_st [.int x5, .int b2] rfl ?_
    refine g_ifeq (pc := 18) 30 dd_Planner_needOfAll_0.2.2.2.2.2.2.2.2.2.2.2.2.1 (by decide) (fun c10 => ?_) (fun c10 => ?_)
    · replace hf := (if_pos c10).symm.trans hf
      refine g_iconst (pc := 30) (0 : Int32) dd_Planner_needOfAll_0.2.2.2.2.2.2.2.2.2.2.2.2.2.2.2.2.2.2.1 (by decide) ?_
      refine g_lv [0, 1, 3] rfl ?_
      exact t_Planner_needOfAll_31 rec4 hrec4 _ _ _ _ _ _ _ _  hf
    · replace hf := (if_neg c10).symm.trans hf
      refine g_aload_n (pc := 21) 0 dd_Planner_needOfAll_0.2.2.2.2.2.2.2.2.2.2.2.2.2.1 rfl rfl ?_
      obtain ⟨x6, e7, hf⟩ := bd1_e hf
      refine g_get (pc := 22) (ci := 2) (kk := 2) dd_Planner_needOfAll_0.2.2.2.2.2.2.2.2.2.2.2.2.2.2.1 rfl in_Planner (by decide) wd_206 (gR_spec e7) ?_
      refine g_iload_n (pc := 25) 3 dd_Planner_needOfAll_0.2.2.2.2.2.2.2.2.2.2.2.2.2.2.2.1 rfl rfl ?_
      obtain ⟨x8, e9, hf⟩ := bd1_e hf
      refine g_iald (pc := 26) dd_Planner_needOfAll_0.2.2.2.2.2.2.2.2.2.2.2.2.2.2.2.2.1 e9 ?_
      refine g_goto (pc := 27) 31 dd_Planner_needOfAll_0.2.2.2.2.2.2.2.2.2.2.2.2.2.2.2.2.2.1 (by decide) ?_
      refine g_lv [0, 1, 3] rfl ?_
      exact t_Planner_needOfAll_31 rec4 hrec4 _ _ _ _ _ _ _ _  hf
def f_Planner_needOfAll_4  : Nat → Nat → Int32 → Int32 → Int32 → mH → Option (Int32 × mH)
  | 0 => fun _ _ _ _ _ => none
  | n + 1 => f_Planner_needOfAll_4b  (f_Planner_needOfAll_4  n)
theorem t_Planner_needOfAll_4 {sc : Nat × (Nat → Int32)}  : ∀ (n : Nat) (b0 : Nat) (b1 : Int32) (b2 : Int32) (b3 : Int32) (h : mH) (r : Int32) (h' : mH) (hf : f_Planner_needOfAll_4  n b0 b1 b2 b3 h = some (r, h')), G sc y_Planner_needOfAll prog_3_method_5_code 4 (some .int) 1 21 4 [(0, .ref b0), (1, .int b1), (2, .int b2), (3, .int b3)] [] h (some (.int r)) h'
  | 0, _, _, _, _, _, _, _, hf => by cases hf
  | n + 1, _, _, _, _, _, _, _, hf => t_Planner_needOfAll_4b  (f_Planner_needOfAll_4  n) (t_Planner_needOfAll_4  n) _ _ _ _ _ _ _ hf
def f_Planner_needOfAll_0  (a0 : Nat) (a1 : Int32) (h : mH) : Option (Int32 × mH) :=
  f_Planner_needOfAll_4  FU a0 a1 (0 : Int32) (0 : Int32) h
set_option maxRecDepth 20000 in
theorem t_Planner_needOfAll_0 {sc : Nat × (Nat → Int32)}  (a0 : Nat) (a1 : Int32) (h : mH) (r : Int32) (h' : mH) (hf : f_Planner_needOfAll_0  a0 a1 h = some (r, h')) : G sc y_Planner_needOfAll prog_3_method_5_code 4 (some .int) 1 21 0 [(0, .ref a0), (1, .int a1)] [] h (some (.int r)) h' := by
  unfold f_Planner_needOfAll_0 at hf
  refine g_iconst (pc := 0) (0 : Int32) dd_Planner_needOfAll_0.1 (by decide) ?_
  refine g_istore_n (pc := 1) [(2, .int (0 : Int32)), (0, .ref a0), (1, .int a1)] dd_Planner_needOfAll_0.2.1 rfl (Nat.le_of_ble_eq_true rfl) rfl ?_
  refine g_iconst (pc := 2) (0 : Int32) dd_Planner_needOfAll_0.2.2.1 (by decide) ?_
  refine g_istore_n (pc := 3) [(3, .int (0 : Int32)), (2, .int (0 : Int32)), (0, .ref a0), (1, .int a1)] dd_Planner_needOfAll_0.2.2.2.1 rfl (Nat.le_of_ble_eq_true rfl) rfl ?_
  refine g_lv [2, 3, 1, 0] rfl ?_
  exact t_Planner_needOfAll_4  FU _ _ _ _ _ _ _  hf
def f_Planner_needOfAll (a0 : Nat) (a1 : Int32) (h : mH) : Option (Int32 × mH) := f_Planner_needOfAll_0 a0 a1 h
theorem c_Planner_needOfAll {sc : Nat × (Nat → Int32)} {a0 : Nat} {a1 : Int32} {h : mH} {r : Int32} {h' : mH} (hf : f_Planner_needOfAll a0 a1 h = some (r, h')) : MM sc y_Planner_needOfAll prog_3_method_5_code 4 (some .int) 1 21 [.ref a0, .int a1] h (some (.int r)) h' :=
  mm_of_G si_pn_Planner (Nat.le_of_ble_eq_true rfl) (t_Planner_needOfAll_0 _ _ _ _ _ hf)
/-! Planner givenTo (I)I -/
set_option maxRecDepth 100000 in
theorem dd_Planner_givenTo_0 : (decode prog_3_method_6_code 0 = .ok (.iconst 0, 1)) ∧ (decode prog_3_method_6_code 1 = .ok (.istore_n 2, 1)) ∧ (decode prog_3_method_6_code 2 = .ok (.iconst 0, 1)) ∧ (decode prog_3_method_6_code 3 = .ok (.istore_n 3, 1)) ∧ (decode prog_3_method_6_code 4 = .ok (.iload_n 3, 1)) ∧ (decode prog_3_method_6_code 5 = .ok (.iconst 3, 1)) ∧ (decode prog_3_method_6_code 6 = .ok (.if_icmp .ge 73, 3)) ∧ (decode prog_3_method_6_code 9 = .ok (.iconst 0, 1)) ∧ (decode prog_3_method_6_code 10 = .ok (.istore 4, 2)) ∧ (decode prog_3_method_6_code 12 = .ok (.iconst 0, 1)) ∧ (decode prog_3_method_6_code 13 = .ok (.istore 5, 2)) ∧ (decode prog_3_method_6_code 15 = .ok (.iload 5, 2)) ∧ (decode prog_3_method_6_code 17 = .ok (.aload_n 0, 1)) ∧ (decode prog_3_method_6_code 18 = .ok (.getfield 39, 3)) ∧ (decode prog_3_method_6_code 21 = .ok (.if_icmp .ge 38, 3)) ∧ (decode prog_3_method_6_code 24 = .ok (.iload 4, 2)) ∧ (decode prog_3_method_6_code 26 = .ok (.iload_n 1, 1)) ∧ (decode prog_3_method_6_code 27 = .ok (.iload 5, 2)) ∧ (decode prog_3_method_6_code 29 = .ok (.invokestatic 83, 3)) ∧ (decode prog_3_method_6_code 32 = .ok (.ifCond .eq 17, 3)) ∧ (decode prog_3_method_6_code 35 = .ok (.aload_n 0, 1)) ∧ (decode prog_3_method_6_code 36 = .ok (.getfield 21, 3)) ∧ (decode prog_3_method_6_code 39 = .ok (.iload_n 3, 1)) ∧ (decode prog_3_method_6_code 40 = .ok (.iconst 5, 1)) := by
  have h : List.drop 0 prog_3_method_6_code.data.toList = 0x03 :: _ := rfl
  refine ⟨zq_k_n 3 h rfl (zq_o_3 _), ?_⟩
  replace h := zq_nx1 (q := 1) h rfl
  refine ⟨zq_k_n 61 h rfl (zq_o_61 _), ?_⟩
  replace h := zq_nx1 (q := 2) h rfl
  refine ⟨zq_k_n 3 h rfl (zq_o_3 _), ?_⟩
  replace h := zq_nx1 (q := 3) h rfl
  refine ⟨zq_k_n 62 h rfl (zq_o_62 _), ?_⟩
  replace h := zq_nx1 (q := 4) h rfl
  refine ⟨zq_k_n 29 h rfl (zq_o_29 _), ?_⟩
  replace h := zq_nx1 (q := 5) h rfl
  refine ⟨zq_k_n 6 h rfl (zq_o_6 _), ?_⟩
  replace h := zq_nx1 (q := 6) h rfl
  refine ⟨zq_k_s2 162 (fun z => .if_icmp .ge z) 73 h rfl (zq_o_162 _) (by decide +kernel), ?_⟩
  replace h := zq_nx3 (q := 9) h rfl
  refine ⟨zq_k_n 3 h rfl (zq_o_3 _), ?_⟩
  replace h := zq_nx1 (q := 10) h rfl
  refine ⟨zq_k_u1 54 (fun z => .istore z) 4 h rfl (zq_o_54 _) (by decide +kernel), ?_⟩
  replace h := zq_nx2 (q := 12) h rfl
  refine ⟨zq_k_n 3 h rfl (zq_o_3 _), ?_⟩
  replace h := zq_nx1 (q := 13) h rfl
  refine ⟨zq_k_u1 54 (fun z => .istore z) 5 h rfl (zq_o_54 _) (by decide +kernel), ?_⟩
  replace h := zq_nx2 (q := 15) h rfl
  refine ⟨zq_k_u1 21 (fun z => .iload z) 5 h rfl (zq_o_21 _) (by decide +kernel), ?_⟩
  replace h := zq_nx2 (q := 17) h rfl
  refine ⟨zq_k_n 42 h rfl (zq_o_42 _), ?_⟩
  replace h := zq_nx1 (q := 18) h rfl
  refine ⟨zq_k_u2 180 (fun z => .getfield z) 39 h rfl (zq_o_180 _) (by decide +kernel), ?_⟩
  replace h := zq_nx3 (q := 21) h rfl
  refine ⟨zq_k_s2 162 (fun z => .if_icmp .ge z) 38 h rfl (zq_o_162 _) (by decide +kernel), ?_⟩
  replace h := zq_nx3 (q := 24) h rfl
  refine ⟨zq_k_u1 21 (fun z => .iload z) 4 h rfl (zq_o_21 _) (by decide +kernel), ?_⟩
  replace h := zq_nx2 (q := 26) h rfl
  refine ⟨zq_k_n 27 h rfl (zq_o_27 _), ?_⟩
  replace h := zq_nx1 (q := 27) h rfl
  refine ⟨zq_k_u1 21 (fun z => .iload z) 5 h rfl (zq_o_21 _) (by decide +kernel), ?_⟩
  replace h := zq_nx2 (q := 29) h rfl
  refine ⟨zq_k_u2 184 (fun z => .invokestatic z) 83 h rfl (zq_o_184 _) (by decide +kernel), ?_⟩
  replace h := zq_nx3 (q := 32) h rfl
  refine ⟨zq_k_s2 153 (fun z => .ifCond .eq z) 17 h rfl (zq_o_153 _) (by decide +kernel), ?_⟩
  replace h := zq_nx3 (q := 35) h rfl
  refine ⟨zq_k_n 42 h rfl (zq_o_42 _), ?_⟩
  replace h := zq_nx1 (q := 36) h rfl
  refine ⟨zq_k_u2 180 (fun z => .getfield z) 21 h rfl (zq_o_180 _) (by decide +kernel), ?_⟩
  replace h := zq_nx3 (q := 39) h rfl
  refine ⟨zq_k_n 29 h rfl (zq_o_29 _), ?_⟩
  replace h := zq_nx1 (q := 40) h rfl
  exact zq_k_n 8 h rfl (zq_o_8 _)
set_option maxRecDepth 100000 in
theorem dd_Planner_givenTo_41 : (decode prog_3_method_6_code 41 = .ok (.imul, 1)) ∧ (decode prog_3_method_6_code 42 = .ok (.iload 5, 2)) ∧ (decode prog_3_method_6_code 44 = .ok (.iadd, 1)) ∧ (decode prog_3_method_6_code 45 = .ok (.iaload, 1)) ∧ (decode prog_3_method_6_code 46 = .ok (.goto 4, 3)) ∧ (decode prog_3_method_6_code 49 = .ok (.iconst 0, 1)) ∧ (decode prog_3_method_6_code 50 = .ok (.iadd, 1)) ∧ (decode prog_3_method_6_code 51 = .ok (.istore 4, 2)) ∧ (decode prog_3_method_6_code 53 = .ok (.iinc 5 1, 3)) ∧ (decode prog_3_method_6_code 56 = .ok (.goto (-41), 3)) ∧ (decode prog_3_method_6_code 59 = .ok (.iload_n 2, 1)) ∧ (decode prog_3_method_6_code 60 = .ok (.iload 4, 2)) ∧ (decode prog_3_method_6_code 62 = .ok (.aload_n 0, 1)) ∧ (decode prog_3_method_6_code 63 = .ok (.getfield 9, 3)) ∧ (decode prog_3_method_6_code 66 = .ok (.iload_n 3, 1)) ∧ (decode prog_3_method_6_code 67 = .ok (.iaload, 1)) ∧ (decode prog_3_method_6_code 68 = .ok (.invokestatic 86, 3)) ∧ (decode prog_3_method_6_code 71 = .ok (.iadd, 1)) ∧ (decode prog_3_method_6_code 72 = .ok (.istore_n 2, 1)) ∧ (decode prog_3_method_6_code 73 = .ok (.iinc 3 1, 3)) ∧ (decode prog_3_method_6_code 76 = .ok (.goto (-72), 3)) ∧ (decode prog_3_method_6_code 79 = .ok (.iload_n 2, 1)) ∧ (decode prog_3_method_6_code 80 = .ok (.ireturn, 1)) := by
  have h : List.drop 41 prog_3_method_6_code.data.toList = 0x68 :: _ := rfl
  refine ⟨zq_k_n 104 h rfl (zq_o_104 _), ?_⟩
  replace h := zq_nx1 (q := 42) h rfl
  refine ⟨zq_k_u1 21 (fun z => .iload z) 5 h rfl (zq_o_21 _) (by decide +kernel), ?_⟩
  replace h := zq_nx2 (q := 44) h rfl
  refine ⟨zq_k_n 96 h rfl (zq_o_96 _), ?_⟩
  replace h := zq_nx1 (q := 45) h rfl
  refine ⟨zq_k_n 46 h rfl (zq_o_46 _), ?_⟩
  replace h := zq_nx1 (q := 46) h rfl
  refine ⟨zq_k_s2 167 (fun z => .goto z) 4 h rfl (zq_o_167 _) (by decide +kernel), ?_⟩
  replace h := zq_nx3 (q := 49) h rfl
  refine ⟨zq_k_n 3 h rfl (zq_o_3 _), ?_⟩
  replace h := zq_nx1 (q := 50) h rfl
  refine ⟨zq_k_n 96 h rfl (zq_o_96 _), ?_⟩
  replace h := zq_nx1 (q := 51) h rfl
  refine ⟨zq_k_u1 54 (fun z => .istore z) 4 h rfl (zq_o_54 _) (by decide +kernel), ?_⟩
  replace h := zq_nx2 (q := 53) h rfl
  refine ⟨zq_k_iinc 5 1 h rfl (zq_o_132 _) (by decide +kernel) (by decide +kernel), ?_⟩
  replace h := zq_nx3 (q := 56) h rfl
  refine ⟨zq_k_s2 167 (fun z => .goto z) (-41) h rfl (zq_o_167 _) (by decide +kernel), ?_⟩
  replace h := zq_nx3 (q := 59) h rfl
  refine ⟨zq_k_n 28 h rfl (zq_o_28 _), ?_⟩
  replace h := zq_nx1 (q := 60) h rfl
  refine ⟨zq_k_u1 21 (fun z => .iload z) 4 h rfl (zq_o_21 _) (by decide +kernel), ?_⟩
  replace h := zq_nx2 (q := 62) h rfl
  refine ⟨zq_k_n 42 h rfl (zq_o_42 _), ?_⟩
  replace h := zq_nx1 (q := 63) h rfl
  refine ⟨zq_k_u2 180 (fun z => .getfield z) 9 h rfl (zq_o_180 _) (by decide +kernel), ?_⟩
  replace h := zq_nx3 (q := 66) h rfl
  refine ⟨zq_k_n 29 h rfl (zq_o_29 _), ?_⟩
  replace h := zq_nx1 (q := 67) h rfl
  refine ⟨zq_k_n 46 h rfl (zq_o_46 _), ?_⟩
  replace h := zq_nx1 (q := 68) h rfl
  refine ⟨zq_k_u2 184 (fun z => .invokestatic z) 86 h rfl (zq_o_184 _) (by decide +kernel), ?_⟩
  replace h := zq_nx3 (q := 71) h rfl
  refine ⟨zq_k_n 96 h rfl (zq_o_96 _), ?_⟩
  replace h := zq_nx1 (q := 72) h rfl
  refine ⟨zq_k_n 61 h rfl (zq_o_61 _), ?_⟩
  replace h := zq_nx1 (q := 73) h rfl
  refine ⟨zq_k_iinc 3 1 h rfl (zq_o_132 _) (by decide +kernel) (by decide +kernel), ?_⟩
  replace h := zq_nx3 (q := 76) h rfl
  refine ⟨zq_k_s2 167 (fun z => .goto z) (-72) h rfl (zq_o_167 _) (by decide +kernel), ?_⟩
  replace h := zq_nx3 (q := 79) h rfl
  refine ⟨zq_k_n 28 h rfl (zq_o_28 _), ?_⟩
  replace h := zq_nx1 (q := 80) h rfl
  exact zq_k_n 172 h rfl (zq_o_172 _)
def f_Planner_givenTo_50 (rec4 : Nat → Int32 → Int32 → Int32 → mH → Option (Int32 × mH)) (rec15 : Nat → Int32 → Int32 → Int32 → Int32 → Int32 → mH → Option (Int32 × mH)) (b0 : Nat) (b1 : Int32) (b2 : Int32) (b3 : Int32) (b5 : Int32) (s0 : Int32) (s1 : Int32) (h : mH) : Option (Int32 × mH) :=
  rec15 b0 b1 b2 b3 (s0 + s1) (b5 + (1 : Int32)) h
set_option maxRecDepth 20000 in
theorem t_Planner_givenTo_50 {sc : Nat × (Nat → Int32)} (rec4 : Nat → Int32 → Int32 → Int32 → mH → Option (Int32 × mH)) (hrec4 : ∀ (b0 : Nat) (b1 : Int32) (b2 : Int32) (b3 : Int32) (h : mH) (r : Int32) (h' : mH), rec4 b0 b1 b2 b3 h = some (r, h') → G sc y_Planner_givenTo prog_3_method_6_code 6 (some .int) 1 21 4 [(0, .ref b0), (1, .int b1), (2, .int b2), (3, .int b3)] [] h (some (.int r)) h') (rec15 : Nat → Int32 → Int32 → Int32 → Int32 → Int32 → mH → Option (Int32 × mH)) (hrec15 : ∀ (b0 : Nat) (b1 : Int32) (b2 : Int32) (b3 : Int32) (b4 : Int32) (b5 : Int32) (h : mH) (r : Int32) (h' : mH), rec15 b0 b1 b2 b3 b4 b5 h = some (r, h') → G sc y_Planner_givenTo prog_3_method_6_code 6 (some .int) 1 21 15 [(0, .ref b0), (1, .int b1), (2, .int b2), (3, .int b3), (4, .int b4), (5, .int b5)] [] h (some (.int r)) h') (b0 : Nat) (b1 : Int32) (b2 : Int32) (b3 : Int32) (b5 : Int32) (s0 : Int32) (s1 : Int32) (h : mH) (r : Int32) (h' : mH) (hf : f_Planner_givenTo_50 rec4 rec15 b0 b1 b2 b3 b5 s0 s1 h = some (r, h')) : G sc y_Planner_givenTo prog_3_method_6_code 6 (some .int) 1 21 50 [(0, .ref b0), (1, .int b1), (2, .int b2), (3, .int b3), (5, .int b5)] [.int s1, .int s0] h (some (.int r)) h' := by
  unfold f_Planner_givenTo_50 at hf
  refine g_iadd (pc := 50) dd_Planner_givenTo_41.2.2.2.2.2.2.1 ?_
  refine g_istore (pc := 51) [(4, .int (s0 + s1)), (0, .ref b0), (1, .int b1), (2, .int b2), (3, .int b3), (5, .int b5)] dd_Planner_givenTo_41.2.2.2.2.2.2.2.1 (Nat.le_of_ble_eq_true rfl) rfl ?_
  refine g_iinc (pc := 53) 5 (b5 + (1 : Int32)) [(5, .int (b5 + (1 : Int32))), (4, .int (s0 + s1)), (0, .ref b0), (1, .int b1), (2, .int b2), (3, .int b3)] dd_Planner_givenTo_41.2.2.2.2.2.2.2.2.1 rfl rfl (Nat.le_of_ble_eq_true rfl) rfl ?_
  refine g_goto (pc := 56) 15 dd_Planner_givenTo_41.2.2.2.2.2.2.2.2.2.1 (by decide) ?_
  refine g_lv [2, 3, 4, 5, 1, 0] rfl ?_
  exact hrec15 _ _ _ _ _ _ _ _ _  hf
def f_Planner_givenTo_15b (rec4 : Nat → Int32 → Int32 → Int32 → mH → Option (Int32 × mH)) (rec15 : Nat → Int32 → Int32 → Int32 → Int32 → Int32 → mH → Option (Int32 × mH)) (b0 : Nat) (b1 : Int32) (b2 : Int32) (b3 : Int32) (b4 : Int32) (b5 : Int32) (h : mH) : Option (Int32 × mH) :=
  bd1 (gI h b0 2 0) fun x2 =>
  if x2 ≤ b5 then
    bd1 (gR h b0 2 1) fun x4 =>
    bd1 (aI h 0 x4 b3) fun x6 =>
    rec4 b0 b1 (b2 + (if x6 < b4 then x6 else b4)) (b3 + (1 : Int32)) h
  else
    bd2 (f_Q_hasBit b1 b5 h) fun x10 h8 =>
    if x10 = 0 then
      f_Planner_givenTo_50 rec4 rec15 b0 b1 b2 b3 b5 b4 (0 : Int32) h8
    else
      bd1 (gR h8 b0 2 4) fun x11 =>
      bd1 (aI h8 0 x11 ((b3 * (5 : Int32)) + b5)) fun x13 =>
      f_Planner_givenTo_50 rec4 rec15 b0 b1 b2 b3 b5 b4 x13 h8
set_option maxRecDepth 20000 in
theorem t_Planner_givenTo_15b {sc : Nat × (Nat → Int32)} (rec4 : Nat → Int32 → Int32 → Int32 → mH → Option (Int32 × mH)) (hrec4 : ∀ (b0 : Nat) (b1 : Int32) (b2 : Int32) (b3 : Int32) (h : mH) (r : Int32) (h' : mH), rec4 b0 b1 b2 b3 h = some (r, h') → G sc y_Planner_givenTo prog_3_method_6_code 6 (some .int) 1 21 4 [(0, .ref b0), (1, .int b1), (2, .int b2), (3, .int b3)] [] h (some (.int r)) h') (rec15 : Nat → Int32 → Int32 → Int32 → Int32 → Int32 → mH → Option (Int32 × mH)) (hrec15 : ∀ (b0 : Nat) (b1 : Int32) (b2 : Int32) (b3 : Int32) (b4 : Int32) (b5 : Int32) (h : mH) (r : Int32) (h' : mH), rec15 b0 b1 b2 b3 b4 b5 h = some (r, h') → G sc y_Planner_givenTo prog_3_method_6_code 6 (some .int) 1 21 15 [(0, .ref b0), (1, .int b1), (2, .int b2), (3, .int b3), (4, .int b4), (5, .int b5)] [] h (some (.int r)) h') (b0 : Nat) (b1 : Int32) (b2 : Int32) (b3 : Int32) (b4 : Int32) (b5 : Int32) (h : mH) (r : Int32) (h' : mH) (hf : f_Planner_givenTo_15b rec4 rec15 b0 b1 b2 b3 b4 b5 h = some (r, h')) : G sc y_Planner_givenTo prog_3_method_6_code 6 (some .int) 1 21 15 [(0, .ref b0), (1, .int b1), (2, .int b2), (3, .int b3), (4, .int b4), (5, .int b5)] [] h (some (.int r)) h' := by
  unfold f_Planner_givenTo_15b at hf
  refine g_iload (pc := 15) 5 dd_Planner_givenTo_0.2.2.2.2.2.2.2.2.2.2.2.1 rfl ?_
  refine g_aload_n (pc := 17) 0 dd_Planner_givenTo_0.2.2.2.2.2.2.2.2.2.2.2.2.1 rfl rfl ?_
  obtain ⟨x2, e3, hf⟩ := bd1_e hf
  refine g_get (pc := 18) (ci := 2) (kk := 0) dd_Planner_givenTo_0.2.2.2.2.2.2.2.2.2.2.2.2.2.1 rfl in_Planner (by decide) wd_204 (gI_spec e3) ?_
  refine g_icmpge (pc := 21) 59 dd_Planner_givenTo_0.2.2.2.2.2.2.2.2.2.2.2.2.2.2.1 (by decide) (fun c16 => ?_) (fun c16 => ?_)
  · replace hf := (if_pos c16).symm.trans hf
    refine g_iload_n (pc := 59) 2 dd_Planner_givenTo_41.2.2.2.2.2.2.2.2.2.2.1 rfl rfl ?_
    refine g_iload (pc := 60) 4 dd_Planner_givenTo_41.2.2.2.2.2.2.2.2.2.2.2.1 rfl ?_
    refine g_aload_n (pc := 62) 0 dd_Planner_givenTo_41.2.2.2.2.2.2.2.2.2.2.2.2.1 rfl rfl ?_
    obtain ⟨x4, e5, hf⟩ := bd1_e hf
    refine g_get (pc := 63) (ci := 2) (kk := 1) dd_Planner_givenTo_41.2.2.2.2.2.2.2.2.2.2.2.2.2.1 rfl in_Planner (by decide) wd_205 (gR_spec e5) ?_
    refine g_iload_n (pc := 66) 3 dd_Planner_givenTo_41.2.2.2.2.2.2.2.2.2.2.2.2.2.2.1 rfl rfl ?_
    obtain ⟨x6, e7, hf⟩ := bd1_e hf
    refine g_iald (pc := 67) dd_Planner_givenTo_41.2.2.2.2.2.2.2.2.2.2.2.2.2.2.2.1 e7 ?_
    refine g_mmin (pc := 68) dd_Planner_givenTo_41.2.2.2.2.2.2.2.2.2.2.2.2.2.2.2.2.1 wd_686 wd_564 wd_16 wd_565 (by decide) (Nat.le_of_ble_eq_true rfl) ?_
    refine g_iadd (pc := 71) dd_Planner_givenTo_41.2.2.2.2.2.2.2.2.2.2.2.2.2.2.2.2.2.1 ?_
    refine g_istore_n (pc := 72) [(2, .int (b2 + (if x6 < b4 then x6 else b4))), (0, .ref b0), (1, .int b1), (3, .int b3), (4, .int b4), (5, .int b5)] dd_Planner_givenTo_41.2.2.2.2.2.2.2.2.2.2.2.2.2.2.2.2.2.2.1 rfl (Nat.le_of_ble_eq_true rfl) rfl ?_
    refine g_iinc (pc := 73) 3 (b3 + (1 : Int32)) [(3, .int (b3 + (1 : Int32))), (2, .int (b2 + (if x6 < b4 then x6 else b4))), (0, .ref b0), (1, .int b1), (4, .int b4), (5, .int b5)] dd_Planner_givenTo_41.2.2.2.2.2.2.2.2.2.2.2.2.2.2.2.2.2.2.2.1 rfl rfl (Nat.le_of_ble_eq_true rfl) rfl ?_
    refine g_goto (pc := 76) 4 dd_Planner_givenTo_41.2.2.2.2.2.2.2.2.2.2.2.2.2.2.2.2.2.2.2.2.1 (by decide) ?_
    refine g_lv [2, 3, 1, 0] rfl ?_
    exact hrec4 _ _ _ _ _ _ _  hf
  · replace hf := (if_neg c16).symm.trans hf
    refine g_iload (pc := 24) 4 dd_Planner_givenTo_0.2.2.2.2.2.2.2.2.2.2.2.2.2.2.2.1 rfl ?_
    refine g_iload_n (pc := 26) 1 dd_Planner_givenTo_0.2.2.2.2.2.2.2.2.2.2.2.2.2.2.2.2.1 rfl rfl ?_
    refine g_iload (pc := 27) 5 dd_Planner_givenTo_0.2.2.2.2.2.2.2.2.2.2.2.2.2.2.2.2.2.1 rfl ?_
    obtain ⟨x10, h8, e9, hf⟩ := bd2_e hf
    refine g_callSN (pc := 29) "QuotaLaws" [.int b1, .int b5] (site_of si_Q_hasBit (by decide) (by decide)) wd_710 wd_469 dd_Planner_givenTo_0.2.2.2.2.2.2.2.2.2.2.2.2.2.2.2.2.2.2.1 (Nat.le_of_ble_eq_true rfl) (fun z => absurd z si_na_Q_hasBit) (fun z => absurd z si_na_Q_hasBit) (fun z => absurd z si_na_Q_hasBit) (c_Q_hasBit e9) rfl ?_
    refine g_st [.int x10, .int b4] rfl ?_
    refine g_ifeq (pc := 32) 49 dd_Planner_givenTo_0.2.2.2.2.2.2.2.2.2.2.2.2.2.2.2.2.2.2.2.1 (by decide) (fun c15 => ?_) (fun c15 => ?_)
    · replace hf := (if_pos c15).symm.trans hf
      refine g_iconst (pc := 49) (0 : Int32) dd_Planner_givenTo_41.2.2.2.2.2.1 (by decide) ?_
      refine g_lv [0, 1, 2, 3, 5] rfl ?_
      exact t_Planner_givenTo_50 rec4 hrec4 rec15 hrec15 _ _ _ _ _ _ _ _ _ _  hf
    · replace hf := (if_neg c15).symm.trans hf
      refine g_aload_n (pc := 35) 0 dd_Planner_givenTo_0.2.2.2.2.2.2.2.2.2.2.2.2.2.2.2.2.2.2.2.2.1 rfl rfl ?_
      obtain ⟨x11, e12, hf⟩ := bd1_e hf
      refine g_get (pc := 36) (ci := 2) (kk := 4) dd_Planner_givenTo_0.2.2.2.2.2.2.2.2.2.2.2.2.2.2.2.2.2.2.2.2.2.1 rfl in_Planner (by decide) wd_208 (gR_spec e12) ?_
      refine g_iload_n (pc := 39) 3 dd_Planner_givenTo_0.2.2.2.2.2.2.2.2.2.2.2.2.2.2.2.2.2.2.2.2.2.2.1 rfl rfl ?_
      refine g_iconst (pc := 40) (5 : Int32) dd_Planner_givenTo_0.2.2.2.2.2.2.2.2.2.2.2.2.2.2.2.2.2.2.2.2.2.2.2 (by decide) ?_
      refine g_imul (pc := 41) dd_Planner_givenTo_41.1 ?_
      refine g_iload (pc := 42) 5 dd_Planner_givenTo_41.2.1 rfl ?_
      refine g_iadd (pc := 44) dd_Planner_givenTo_41.2.2.1 ?_
      obtain ⟨x13, e14, hf⟩ := bd1_e hf
      refine g_iald (pc := 45) dd_Planner_givenTo_41.2.2.2.1 e14 ?_
      refine g_goto (pc := 46) 50 dd_Planner_givenTo_41.2.2.2.2.1 (by decide) ?_
      refine g_lv [0, 1, 2, 3, 5] rfl ?_
      exact t_Planner_givenTo_50 rec4 hrec4 rec15 hrec15 _ _ _ _ _ _ _ _ _ _  hf
def f_Planner_givenTo_15 (rec4 : Nat → Int32 → Int32 → Int32 → mH → Option (Int32 × mH)) : Nat → Nat → Int32 → Int32 → Int32 → Int32 → Int32 → mH → Option (Int32 × mH)
  | 0 => fun _ _ _ _ _ _ _ => none
  | n + 1 => f_Planner_givenTo_15b rec4 (f_Planner_givenTo_15 rec4 n)
theorem t_Planner_givenTo_15 {sc : Nat × (Nat → Int32)} (rec4 : Nat → Int32 → Int32 → Int32 → mH → Option (Int32 × mH)) (hrec4 : ∀ (b0 : Nat) (b1 : Int32) (b2 : Int32) (b3 : Int32) (h : mH) (r : Int32) (h' : mH), rec4 b0 b1 b2 b3 h = some (r, h') → G sc y_Planner_givenTo prog_3_method_6_code 6 (some .int) 1 21 4 [(0, .ref b0), (1, .int b1), (2, .int b2), (3, .int b3)] [] h (some (.int r)) h') : ∀ (n : Nat) (b0 : Nat) (b1 : Int32) (b2 : Int32) (b3 : Int32) (b4 : Int32) (b5 : Int32) (h : mH) (r : Int32) (h' : mH) (hf : f_Planner_givenTo_15 rec4 n b0 b1 b2 b3 b4 b5 h = some (r, h')), G sc y_Planner_givenTo prog_3_method_6_code 6 (some .int) 1 21 15 [(0, .ref b0), (1, .int b1), (2, .int b2), (3, .int b3), (4, .int b4), (5, .int b5)] [] h (some (.int r)) h'
  | 0, _, _, _, _, _, _, _, _, _, hf => by cases hf
  | n + 1, _, _, _, _, _, _, _, _, _, hf => t_Planner_givenTo_15b rec4 hrec4 (f_Planner_givenTo_15 rec4 n) (t_Planner_givenTo_15 rec4 hrec4 n) _ _ _ _ _ _ _ _ _ hf
def f_Planner_givenTo_4b (rec4 : Nat → Int32 → Int32 → Int32 → mH → Option (Int32 × mH)) (b0 : Nat) (b1 : Int32) (b2 : Int32) (b3 : Int32) (h : mH) : Option (Int32 × mH) :=
  if (3 : Int32) ≤ b3 then
    some (b2, h)
  else
    f_Planner_givenTo_15 rec4 FU b0 b1 b2 b3 (0 : Int32) (0 : Int32) h
set_option maxRecDepth 20000 in
theorem t_Planner_givenTo_4b {sc : Nat × (Nat → Int32)} (rec4 : Nat → Int32 → Int32 → Int32 → mH → Option (Int32 × mH)) (hrec4 : ∀ (b0 : Nat) (b1 : Int32) (b2 : Int32) (b3 : Int32) (h : mH) (r : Int32) (h' : mH), rec4 b0 b1 b2 b3 h = some (r, h') → G sc y_Planner_givenTo prog_3_method_6_code 6 (some .int) 1 21 4 [(0, .ref b0), (1, .int b1), (2, .int b2), (3, .int b3)] [] h (some (.int r)) h') (b0 : Nat) (b1 : Int32) (b2 : Int32) (b3 : Int32) (h : mH) (r : Int32) (h' : mH) (hf : f_Planner_givenTo_4b rec4 b0 b1 b2 b3 h = some (r, h')) : G sc y_Planner_givenTo prog_3_method_6_code 6 (some .int) 1 21 4 [(0, .ref b0), (1, .int b1), (2, .int b2), (3, .int b3)] [] h (some (.int r)) h' := by
  unfold f_Planner_givenTo_4b at hf
  refine g_iload_n (pc := 4) 3 dd_Planner_givenTo_0.2.2.2.2.1 rfl rfl ?_
  refine g_iconst (pc := 5) (3 : Int32) dd_Planner_givenTo_0.2.2.2.2.2.1 (by decide) ?_
  refine g_icmpge (pc := 6) 79 dd_Planner_givenTo_0.2.2.2.2.2.2.1 (by decide) (fun c1 => ?_) (fun c1 => ?_)
  · replace hf := (if_pos c1).symm.trans hf
    refine g_iload_n (pc := 79) 2 dd_Planner_givenTo_41.2.2.2.2.2.2.2.2.2.2.2.2.2.2.2.2.2.2.2.2.2.1 rfl rfl ?_
    obtain ⟨rfl, rfl⟩ := ret2 hf
    exact g_iret (pc := 80) rfl dd_Planner_givenTo_41.2.2.2.2.2.2.2.2.2.2.2.2.2.2.2.2.2.2.2.2.2.2
  · replace hf := (if_neg c1).symm.trans hf
    refine g_iconst (pc := 9) (0 : Int32) dd_Planner_givenTo_0.2.2.2.2.2.2.2.1 (by decide) ?_
    refine g_istore (pc := 10) [(4, .int (0 : Int32)), (0, .ref b0), (1, .int b1), (2, .int b2), (3, .int b3)] dd_Planner_givenTo_0.2.2.2.2.2.2.2.2.1 (Nat.le_of_ble_eq_true rfl) rfl ?_
    refine g_iconst (pc := 12) (0 : Int32) dd_Planner_givenTo_0.2.2.2.2.2.2.2.2.2.1 (by decide) ?_
    refine g_istore (pc := 13) [(5, .int (0 : Int32)), (4, .int (0 : Int32)), (0, .ref b0), (1, .int b1), (2, .int b2), (3, .int b3)] dd_Planner_givenTo_0.2.2.2.2.2.2.2.2.2.2.1 (Nat.le_of_ble_eq_true rfl) rfl ?_
    refine g_lv [2, 3, 4, 5, 1, 0] rfl ?_
    exact t_Planner_givenTo_15 rec4 hrec4 FU _ _ _ _ _ _ _ _ _  hf
def f_Planner_givenTo_4  : Nat → Nat → Int32 → Int32 → Int32 → mH → Option (Int32 × mH)
  | 0 => fun _ _ _ _ _ => none
  | n + 1 => f_Planner_givenTo_4b  (f_Planner_givenTo_4  n)
theorem t_Planner_givenTo_4 {sc : Nat × (Nat → Int32)}  : ∀ (n : Nat) (b0 : Nat) (b1 : Int32) (b2 : Int32) (b3 : Int32) (h : mH) (r : Int32) (h' : mH) (hf : f_Planner_givenTo_4  n b0 b1 b2 b3 h = some (r, h')), G sc y_Planner_givenTo prog_3_method_6_code 6 (some .int) 1 21 4 [(0, .ref b0), (1, .int b1), (2, .int b2), (3, .int b3)] [] h (some (.int r)) h'
  | 0, _, _, _, _, _, _, _, hf => by cases hf
  | n + 1, _, _, _, _, _, _, _, hf => t_Planner_givenTo_4b  (f_Planner_givenTo_4  n) (t_Planner_givenTo_4  n) _ _ _ _ _ _ _ hf
def f_Planner_givenTo_0  (a0 : Nat) (a1 : Int32) (h : mH) : Option (Int32 × mH) :=
  f_Planner_givenTo_4  FU a0 a1 (0 : Int32) (0 : Int32) h
set_option maxRecDepth 20000 in
theorem t_Planner_givenTo_0 {sc : Nat × (Nat → Int32)}  (a0 : Nat) (a1 : Int32) (h : mH) (r : Int32) (h' : mH) (hf : f_Planner_givenTo_0  a0 a1 h = some (r, h')) : G sc y_Planner_givenTo prog_3_method_6_code 6 (some .int) 1 21 0 [(0, .ref a0), (1, .int a1)] [] h (some (.int r)) h' := by
  unfold f_Planner_givenTo_0 at hf
  refine g_iconst (pc := 0) (0 : Int32) dd_Planner_givenTo_0.1 (by decide) ?_
  refine g_istore_n (pc := 1) [(2, .int (0 : Int32)), (0, .ref a0), (1, .int a1)] dd_Planner_givenTo_0.2.1 rfl (Nat.le_of_ble_eq_true rfl) rfl ?_
  refine g_iconst (pc := 2) (0 : Int32) dd_Planner_givenTo_0.2.2.1 (by decide) ?_
  refine g_istore_n (pc := 3) [(3, .int (0 : Int32)), (2, .int (0 : Int32)), (0, .ref a0), (1, .int a1)] dd_Planner_givenTo_0.2.2.2.1 rfl (Nat.le_of_ble_eq_true rfl) rfl ?_
  refine g_lv [2, 3, 1, 0] rfl ?_
  exact t_Planner_givenTo_4  FU _ _ _ _ _ _ _  hf
def f_Planner_givenTo (a0 : Nat) (a1 : Int32) (h : mH) : Option (Int32 × mH) := f_Planner_givenTo_0 a0 a1 h
theorem c_Planner_givenTo {sc : Nat × (Nat → Int32)} {a0 : Nat} {a1 : Int32} {h : mH} {r : Int32} {h' : mH} (hf : f_Planner_givenTo a0 a1 h = some (r, h')) : MM sc y_Planner_givenTo prog_3_method_6_code 6 (some .int) 1 21 [.ref a0, .int a1] h (some (.int r)) h' :=
  mm_of_G si_pn_Planner (Nat.le_of_ble_eq_true rfl) (t_Planner_givenTo_0 _ _ _ _ _ hf)
/-! Planner canMeet (I)Z -/
set_option maxRecDepth 100000 in
theorem dd_Planner_canMeet_0 : (decode prog_3_method_4_code 0 = .ok (.iconst 1, 1)) ∧ (decode prog_3_method_4_code 1 = .ok (.istore_n 2, 1)) ∧ (decode prog_3_method_4_code 2 = .ok (.iload_n 2, 1)) ∧ (decode prog_3_method_4_code 3 = .ok (.iload_n 1, 1)) ∧ (decode prog_3_method_4_code 4 = .ok (.if_icmp .gt 32, 3)) ∧ (decode prog_3_method_4_code 7 = .ok (.iload_n 2, 1)) ∧ (decode prog_3_method_4_code 8 = .ok (.iload_n 1, 1)) ∧ (decode prog_3_method_4_code 9 = .ok (.invokestatic 73, 3)) ∧ (decode prog_3_method_4_code 12 = .ok (.ifCond .eq 18, 3)) ∧ (decode prog_3_method_4_code 15 = .ok (.aload_n 0, 1)) ∧ (decode prog_3_method_4_code 16 = .ok (.iload_n 2, 1)) ∧ (decode prog_3_method_4_code 17 = .ok (.invokevirtual 77, 3)) ∧ (decode prog_3_method_4_code 20 = .ok (.aload_n 0, 1)) ∧ (decode prog_3_method_4_code 21 = .ok (.iload_n 2, 1)) ∧ (decode prog_3_method_4_code 22 = .ok (.invokevirtual 80, 3)) ∧ (decode prog_3_method_4_code 25 = .ok (.if_icmp .le 5, 3)) ∧ (decode prog_3_method_4_code 28 = .ok (.iconst 0, 1)) ∧ (decode prog_3_method_4_code 29 = .ok (.ireturn, 1)) ∧ (decode prog_3_method_4_code 30 = .ok (.iinc 2 1, 3)) ∧ (decode prog_3_method_4_code 33 = .ok (.goto (-31), 3)) ∧ (decode prog_3_method_4_code 36 = .ok (.iconst 1, 1)) ∧ (decode prog_3_method_4_code 37 = .ok (.ireturn, 1)) := by
  have h : List.drop 0 prog_3_method_4_code.data.toList = 0x04 :: _ := rfl
  refine ⟨zq_k_n 4 h rfl (zq_o_4 _), ?_⟩
  replace h := zq_nx1 (q := 1) h rfl
  refine ⟨zq_k_n 61 h rfl (zq_o_61 _), ?_⟩
  replace h := zq_nx1 (q := 2) h rfl
  refine ⟨zq_k_n 28 h rfl (zq_o_28 _), ?_⟩
  replace h := zq_nx1 (q := 3) h rfl
  refine ⟨zq_k_n 27 h rfl (zq_o_27 _), ?_⟩
  replace h := zq_nx1 (q := 4) h rfl
  refine ⟨zq_k_s2 163 (fun z => .if_icmp .gt z) 32 h rfl (zq_o_163 _) (by decide +kernel), ?_⟩
  replace h := zq_nx3 (q := 7) h rfl
  refine ⟨zq_k_n 28 h rfl (zq_o_28 _), ?_⟩
  replace h := zq_nx1 (q := 8) h rfl
  refine ⟨zq_k_n 27 h rfl (zq_o_27 _), ?_⟩
  replace h := zq_nx1 (q := 9) h rfl
  refine ⟨zq_k_u2 184 (fun z => .invokestatic z) 73 h rfl (zq_o_184 _) (by decide +kernel), ?_⟩
  replace h := zq_nx3 (q := 12) h rfl
  refine ⟨zq_k_s2 153 (fun z => .ifCond .eq z) 18 h rfl (zq_o_153 _) (by decide +kernel), ?_⟩
  replace h := zq_nx3 (q := 15) h rfl
  refine ⟨zq_k_n 42 h rfl (zq_o_42 _), ?_⟩
  replace h := zq_nx1 (q := 16) h rfl
  refine ⟨zq_k_n 28 h rfl (zq_o_28 _), ?_⟩
  replace h := zq_nx1 (q := 17) h rfl
  refine ⟨zq_k_u2 182 (fun z => .invokevirtual z) 77 h rfl (zq_o_182 _) (by decide +kernel), ?_⟩
  replace h := zq_nx3 (q := 20) h rfl
  refine ⟨zq_k_n 42 h rfl (zq_o_42 _), ?_⟩
  replace h := zq_nx1 (q := 21) h rfl
  refine ⟨zq_k_n 28 h rfl (zq_o_28 _), ?_⟩
  replace h := zq_nx1 (q := 22) h rfl
  refine ⟨zq_k_u2 182 (fun z => .invokevirtual z) 80 h rfl (zq_o_182 _) (by decide +kernel), ?_⟩
  replace h := zq_nx3 (q := 25) h rfl
  refine ⟨zq_k_s2 164 (fun z => .if_icmp .le z) 5 h rfl (zq_o_164 _) (by decide +kernel), ?_⟩
  replace h := zq_nx3 (q := 28) h rfl
  refine ⟨zq_k_n 3 h rfl (zq_o_3 _), ?_⟩
  replace h := zq_nx1 (q := 29) h rfl
  refine ⟨zq_k_n 172 h rfl (zq_o_172 _), ?_⟩
  replace h := zq_nx1 (q := 30) h rfl
  refine ⟨zq_k_iinc 2 1 h rfl (zq_o_132 _) (by decide +kernel) (by decide +kernel), ?_⟩
  replace h := zq_nx3 (q := 33) h rfl
  refine ⟨zq_k_s2 167 (fun z => .goto z) (-31) h rfl (zq_o_167 _) (by decide +kernel), ?_⟩
  replace h := zq_nx3 (q := 36) h rfl
  refine ⟨zq_k_n 4 h rfl (zq_o_4 _), ?_⟩
  replace h := zq_nx1 (q := 37) h rfl
  exact zq_k_n 172 h rfl (zq_o_172 _)
def f_Planner_canMeet_30 (rec2 : Nat → Int32 → Int32 → mH → Option (Int32 × mH)) (b0 : Nat) (b1 : Int32) (b2 : Int32) (h : mH) : Option (Int32 × mH) :=
  rec2 b0 b1 (b2 + (1 : Int32)) h
set_option maxRecDepth 20000 in
theorem t_Planner_canMeet_30 {sc : Nat × (Nat → Int32)} (rec2 : Nat → Int32 → Int32 → mH → Option (Int32 × mH)) (hrec2 : ∀ (b0 : Nat) (b1 : Int32) (b2 : Int32) (h : mH) (r : Int32) (h' : mH), rec2 b0 b1 b2 h = some (r, h') → G sc y_Planner_canMeet prog_3_method_4_code 3 (some .boolean) 2 46 2 [(0, .ref b0), (1, .int b1), (2, .int b2)] [] h (some (.int r)) h') (b0 : Nat) (b1 : Int32) (b2 : Int32) (h : mH) (r : Int32) (h' : mH) (hf : f_Planner_canMeet_30 rec2 b0 b1 b2 h = some (r, h')) : G sc y_Planner_canMeet prog_3_method_4_code 3 (some .boolean) 2 46 30 [(0, .ref b0), (1, .int b1), (2, .int b2)] [] h (some (.int r)) h' := by
  unfold f_Planner_canMeet_30 at hf
  refine g_iinc (pc := 30) 2 (b2 + (1 : Int32)) [(2, .int (b2 + (1 : Int32))), (0, .ref b0), (1, .int b1)] dd_Planner_canMeet_0.2.2.2.2.2.2.2.2.2.2.2.2.2.2.2.2.2.2.1 rfl rfl (Nat.le_of_ble_eq_true rfl) rfl ?_
  refine g_goto (pc := 33) 2 dd_Planner_canMeet_0.2.2.2.2.2.2.2.2.2.2.2.2.2.2.2.2.2.2.2.1 (by decide) ?_
  refine g_lv [1, 2, 0] rfl ?_
  exact hrec2 _ _ _ _ _ _  hf
def f_Planner_canMeet_2b (rec2 : Nat → Int32 → Int32 → mH → Option (Int32 × mH)) (b0 : Nat) (b1 : Int32) (b2 : Int32) (h : mH) : Option (Int32 × mH) :=
  if b1 < b2 then
    some ((1 : Int32), h)
  else
    bd2 (f_Q_isPart b2 b1 h) fun x3 h1 =>
    if x3 = 0 then
      f_Planner_canMeet_30 rec2 b0 b1 b2 h1
    else
      bd1 (kC h1 b0 2) fun _ =>
      bd2 (f_Planner_needOfAll b0 b2 h1) fun x8 h6 =>
      bd1 (kC h6 b0 2) fun _ =>
      bd2 (f_Planner_givenTo b0 b2 h6) fun x13 h11 =>
      if x8 ≤ x13 then
        f_Planner_canMeet_30 rec2 b0 b1 b2 h11
      else
        some ((0 : Int32), h11)
set_option maxRecDepth 20000 in
theorem t_Planner_canMeet_2b {sc : Nat × (Nat → Int32)} (rec2 : Nat → Int32 → Int32 → mH → Option (Int32 × mH)) (hrec2 : ∀ (b0 : Nat) (b1 : Int32) (b2 : Int32) (h : mH) (r : Int32) (h' : mH), rec2 b0 b1 b2 h = some (r, h') → G sc y_Planner_canMeet prog_3_method_4_code 3 (some .boolean) 2 46 2 [(0, .ref b0), (1, .int b1), (2, .int b2)] [] h (some (.int r)) h') (b0 : Nat) (b1 : Int32) (b2 : Int32) (h : mH) (r : Int32) (h' : mH) (hf : f_Planner_canMeet_2b rec2 b0 b1 b2 h = some (r, h')) : G sc y_Planner_canMeet prog_3_method_4_code 3 (some .boolean) 2 46 2 [(0, .ref b0), (1, .int b1), (2, .int b2)] [] h (some (.int r)) h' := by
  unfold f_Planner_canMeet_2b at hf
  refine g_iload_n (pc := 2) 2 dd_Planner_canMeet_0.2.2.1 rfl rfl ?_
  refine g_iload_n (pc := 3) 1 dd_Planner_canMeet_0.2.2.2.1 rfl rfl ?_
  refine g_icmpgt (pc := 4) 36 dd_Planner_canMeet_0.2.2.2.2.1 (by decide) (fun c16 => ?_) (fun c16 => ?_)
  · replace hf := (if_pos c16).symm.trans hf
    refine g_iconst (pc := 36) (1 : Int32) dd_Planner_canMeet_0.2.2.2.2.2.2.2.2.2.2.2.2.2.2.2.2.2.2.2.2.1 (by decide) ?_
    obtain ⟨rfl, rfl⟩ := ret2 hf
    exact g_zret (pc := 37) rfl rfl dd_Planner_canMeet_0.2.2.2.2.2.2.2.2.2.2.2.2.2.2.2.2.2.2.2.2.2
  · replace hf := (if_neg c16).symm.trans hf
    refine g_iload_n (pc := 7) 2 dd_Planner_canMeet_0.2.2.2.2.2.1 rfl rfl ?_
    refine g_iload_n (pc := 8) 1 dd_Planner_canMeet_0.2.2.2.2.2.2.1 rfl rfl ?_
    obtain ⟨x3, h1, e2, hf⟩ := bd2_e hf
    refine g_callSN (pc := 9) "QuotaLaws" [.int b2, .int b1] (site_of si_Q_isPart (by decide) (by decide)) wd_705 wd_485 dd_Planner_canMeet_0.2.2.2.2.2.2.2.1 (Nat.le_of_ble_eq_true rfl) (fun z => absurd z si_na_Q_isPart) (fun z => absurd z si_na_Q_isPart) (fun z => absurd z si_na_Q_isPart) (c_Q_isPart e2) rfl ?_
    refine g_st [.int x3] rfl ?_
    refine g_ifeq (pc := 12) 30 dd_Planner_canMeet_0.2.2.2.2.2.2.2.2.1 (by decide) (fun c15 => ?_) (fun c15 => ?_)
    · replace hf := (if_pos c15).symm.trans hf
      refine g_lv [0, 1, 2] rfl ?_
      exact t_Planner_canMeet_30 rec2 hrec2 _ _ _ _ _ _  hf
    · replace hf := (if_neg c15).symm.trans hf
      refine g_aload_n (pc := 15) 0 dd_Planner_canMeet_0.2.2.2.2.2.2.2.2.2.1 rfl rfl ?_
      refine g_iload_n (pc := 16) 2 dd_Planner_canMeet_0.2.2.2.2.2.2.2.2.2.2.1 rfl rfl ?_
      obtain ⟨u5, e4, hf⟩ := bd1_e hf
      obtain ⟨x8, h6, e7, hf⟩ := bd2_e hf
      refine g_callV (pc := 17) (ci := 2) [.int b2] (site_of si_Planner_needOfAll (by decide) (by decide)) wd_706 wd_708 wp_19 dd_Planner_canMeet_0.2.2.2.2.2.2.2.2.2.2.2.1 rfl e4 (Nat.le_of_ble_eq_true rfl) (fun z => absurd z si_na_Planner_needOfAll) (fun z => absurd z si_na_Planner_needOfAll) (fun z => absurd z si_na_Planner_needOfAll) (c_Planner_needOfAll e7) rfl ?_
      refine g_st [.int x8] rfl ?_
      refine g_aload_n (pc := 20) 0 dd_Planner_canMeet_0.2.2.2.2.2.2.2.2.2.2.2.2.1 rfl rfl ?_
      refine g_iload_n (pc := 21) 2 dd_Planner_canMeet_0.2.2.2.2.2.2.2.2.2.2.2.2.2.1 rfl rfl ?_
      obtain ⟨u10, e9, hf⟩ := bd1_e hf
      obtain ⟨x13, h11, e12, hf⟩ := bd2_e hf
      refine g_callV (pc := 22) (ci := 2) [.int b2] (site_of si_Planner_givenTo (by decide) (by decide)) wd_711 wd_713 wp_20 dd_Planner_canMeet_0.2.2.2.2.2.2.2.2.2.2.2.2.2.2.1 rfl e9 (Nat.le_of_ble_eq_true rfl) (fun z => absurd z si_na_Planner_givenTo) (fun z => absurd z si_na_Planner_givenTo) (fun z => absurd z si_na_Planner_givenTo) (c_Planner_givenTo e12) rfl ?_
      refine g_st [.int x13, .int x8] rfl ?_
      refine g_icmple (pc := 25) 30 dd_Planner_canMeet_0.2.2.2.2.2.2.2.2.2.2.2.2.2.2.2.1 (by decide) (fun c14 => ?_) (fun c14 => ?_)
      · replace hf := (if_pos c14).symm.trans hf
        refine g_lv [0, 1, 2] rfl ?_
        exact t_Planner_canMeet_30 rec2 hrec2 _ _ _ _ _ _  hf
      · replace hf := (if_neg c14).symm.trans hf
        refine g_iconst (pc := 28) (0 : Int32) dd_Planner_canMeet_0.2.2.2.2.2.2.2.2.2.2.2.2.2.2.2.2.1 (by decide) ?_
        obtain ⟨rfl, rfl⟩ := ret2 hf
        exact g_zret (pc := 29) rfl rfl dd_Planner_canMeet_0.2.2.2.2.2.2.2.2.2.2.2.2.2.2.2.2.2.1
def f_Planner_canMeet_2  : Nat → Nat → Int32 → Int32 → mH → Option (Int32 × mH)
  | 0 => fun _ _ _ _ => none
  | n + 1 => f_Planner_canMeet_2b  (f_Planner_canMeet_2  n)
theorem t_Planner_canMeet_2 {sc : Nat × (Nat → Int32)}  : ∀ (n : Nat) (b0 : Nat) (b1 : Int32) (b2 : Int32) (h : mH) (r : Int32) (h' : mH) (hf : f_Planner_canMeet_2  n b0 b1 b2 h = some (r, h')), G sc y_Planner_canMeet prog_3_method_4_code 3 (some .boolean) 2 46 2 [(0, .ref b0), (1, .int b1), (2, .int b2)] [] h (some (.int r)) h'
  | 0, _, _, _, _, _, _, hf => by cases hf
  | n + 1, _, _, _, _, _, _, hf => t_Planner_canMeet_2b  (f_Planner_canMeet_2  n) (t_Planner_canMeet_2  n) _ _ _ _ _ _ hf
def f_Planner_canMeet_0  (a0 : Nat) (a1 : Int32) (h : mH) : Option (Int32 × mH) :=
  f_Planner_canMeet_2  FU a0 a1 (1 : Int32) h
set_option maxRecDepth 20000 in
theorem t_Planner_canMeet_0 {sc : Nat × (Nat → Int32)}  (a0 : Nat) (a1 : Int32) (h : mH) (r : Int32) (h' : mH) (hf : f_Planner_canMeet_0  a0 a1 h = some (r, h')) : G sc y_Planner_canMeet prog_3_method_4_code 3 (some .boolean) 2 46 0 [(0, .ref a0), (1, .int a1)] [] h (some (.int r)) h' := by
  unfold f_Planner_canMeet_0 at hf
  refine g_iconst (pc := 0) (1 : Int32) dd_Planner_canMeet_0.1 (by decide) ?_
  refine g_istore_n (pc := 1) [(2, .int (1 : Int32)), (0, .ref a0), (1, .int a1)] dd_Planner_canMeet_0.2.1 rfl (Nat.le_of_ble_eq_true rfl) rfl ?_
  refine g_lv [1, 2, 0] rfl ?_
  exact t_Planner_canMeet_2  FU _ _ _ _ _ _  hf
def f_Planner_canMeet (a0 : Nat) (a1 : Int32) (h : mH) : Option (Int32 × mH) := f_Planner_canMeet_0 a0 a1 h
theorem c_Planner_canMeet {sc : Nat × (Nat → Int32)} {a0 : Nat} {a1 : Int32} {h : mH} {r : Int32} {h' : mH} (hf : f_Planner_canMeet a0 a1 h = some (r, h')) : MM sc y_Planner_canMeet prog_3_method_4_code 3 (some .boolean) 2 46 [.ref a0, .int a1] h (some (.int r)) h' :=
  mm_of_G si_pn_Planner (Nat.le_of_ble_eq_true rfl) (t_Planner_canMeet_0 _ _ _ _ _ hf)
/-! Q more (I)I -/
set_option maxRecDepth 100000 in
theorem dd_Q_more_0 : (decode prog_1_method_23_code 0 = .ok (.aload_n 0, 1)) ∧ (decode prog_1_method_23_code 1 = .ok (.getfield 19, 3)) ∧ (decode prog_1_method_23_code 4 = .ok (.iload_n 1, 1)) ∧ (decode prog_1_method_23_code 5 = .ok (.invokevirtual 135, 3)) ∧ (decode prog_1_method_23_code 8 = .ok (.ifCond .ne 5, 3)) ∧ (decode prog_1_method_23_code 11 = .ok (.iconst (-1), 1)) ∧ (decode prog_1_method_23_code 12 = .ok (.ireturn, 1)) ∧ (decode prog_1_method_23_code 13 = .ok (.aload_n 0, 1)) ∧ (decode prog_1_method_23_code 14 = .ok (.getfield 43, 3)) ∧ (decode prog_1_method_23_code 17 = .ok (.aload_n 0, 1)) ∧ (decode prog_1_method_23_code 18 = .ok (.getfield 19, 3)) ∧ (decode prog_1_method_23_code 21 = .ok (.invokevirtual 195, 3)) ∧ (decode prog_1_method_23_code 24 = .ok (.iconst 0, 1)) ∧ (decode prog_1_method_23_code 25 = .ok (.istore_n 2, 1)) ∧ (decode prog_1_method_23_code 26 = .ok (.iload_n 2, 1)) ∧ (decode prog_1_method_23_code 27 = .ok (.bipush 9, 2)) ∧ (decode prog_1_method_23_code 29 = .ok (.if_icmp .gt 56, 3)) ∧ (decode prog_1_method_23_code 32 = .ok (.aload_n 0, 1)) ∧ (decode prog_1_method_23_code 33 = .ok (.getfield 43, 3)) ∧ (decode prog_1_method_23_code 36 = .ok (.iload_n 1, 1)) ∧ (decode prog_1_method_23_code 37 = .ok (.aload_n 0, 1)) ∧ (decode prog_1_method_23_code 38 = .ok (.getfield 19, 3)) ∧ (decode prog_1_method_23_code 41 = .ok (.getfield 138, 3)) ∧ (decode prog_1_method_23_code 44 = .ok (.iload_n 1, 1)) := by
  have h : List.drop 0 prog_1_method_23_code.data.toList = 0x2a :: _ := rfl
  refine ⟨zq_k_n 42 h rfl (zq_o_42 _), ?_⟩
  replace h := zq_nx1 (q := 1) h rfl
  refine ⟨zq_k_u2 180 (fun z => .getfield z) 19 h rfl (zq_o_180 _) (by decide +kernel), ?_⟩
  replace h := zq_nx3 (q := 4) h rfl
  refine ⟨zq_k_n 27 h rfl (zq_o_27 _), ?_⟩
  replace h := zq_nx1 (q := 5) h rfl
  refine ⟨zq_k_u2 182 (fun z => .invokevirtual z) 135 h rfl (zq_o_182 _) (by decide +kernel), ?_⟩
  replace h := zq_nx3 (q := 8) h rfl
  refine ⟨zq_k_s2 154 (fun z => .ifCond .ne z) 5 h rfl (zq_o_154 _) (by decide +kernel), ?_⟩
  replace h := zq_nx3 (q := 11) h rfl
  refine ⟨zq_k_n 2 h rfl (zq_o_2 _), ?_⟩
  replace h := zq_nx1 (q := 12) h rfl
  refine ⟨zq_k_n 172 h rfl (zq_o_172 _), ?_⟩
  replace h := zq_nx1 (q := 13) h rfl
  refine ⟨zq_k_n 42 h rfl (zq_o_42 _), ?_⟩
  replace h := zq_nx1 (q := 14) h rfl
  refine ⟨zq_k_u2 180 (fun z => .getfield z) 43 h rfl (zq_o_180 _) (by decide +kernel), ?_⟩
  replace h := zq_nx3 (q := 17) h rfl
  refine ⟨zq_k_n 42 h rfl (zq_o_42 _), ?_⟩
  replace h := zq_nx1 (q := 18) h rfl
  refine ⟨zq_k_u2 180 (fun z => .getfield z) 19 h rfl (zq_o_180 _) (by decide +kernel), ?_⟩
  replace h := zq_nx3 (q := 21) h rfl
  refine ⟨zq_k_u2 182 (fun z => .invokevirtual z) 195 h rfl (zq_o_182 _) (by decide +kernel), ?_⟩
  replace h := zq_nx3 (q := 24) h rfl
  refine ⟨zq_k_n 3 h rfl (zq_o_3 _), ?_⟩
  replace h := zq_nx1 (q := 25) h rfl
  refine ⟨zq_k_n 61 h rfl (zq_o_61 _), ?_⟩
  replace h := zq_nx1 (q := 26) h rfl
  refine ⟨zq_k_n 28 h rfl (zq_o_28 _), ?_⟩
  replace h := zq_nx1 (q := 27) h rfl
  refine ⟨zq_k_s1 16 (fun z => .bipush z) 9 h rfl (zq_o_16 _) (by decide +kernel), ?_⟩
  replace h := zq_nx2 (q := 29) h rfl
  refine ⟨zq_k_s2 163 (fun z => .if_icmp .gt z) 56 h rfl (zq_o_163 _) (by decide +kernel), ?_⟩
  replace h := zq_nx3 (q := 32) h rfl
  refine ⟨zq_k_n 42 h rfl (zq_o_42 _), ?_⟩
  replace h := zq_nx1 (q := 33) h rfl
  refine ⟨zq_k_u2 180 (fun z => .getfield z) 43 h rfl (zq_o_180 _) (by decide +kernel), ?_⟩
  replace h := zq_nx3 (q := 36) h rfl
  refine ⟨zq_k_n 27 h rfl (zq_o_27 _), ?_⟩
  replace h := zq_nx1 (q := 37) h rfl
  refine ⟨zq_k_n 42 h rfl (zq_o_42 _), ?_⟩
  replace h := zq_nx1 (q := 38) h rfl
  refine ⟨zq_k_u2 180 (fun z => .getfield z) 19 h rfl (zq_o_180 _) (by decide +kernel), ?_⟩
  replace h := zq_nx3 (q := 41) h rfl
  refine ⟨zq_k_u2 180 (fun z => .getfield z) 138 h rfl (zq_o_180 _) (by decide +kernel), ?_⟩
  replace h := zq_nx3 (q := 44) h rfl
  exact zq_k_n 27 h rfl (zq_o_27 _)
set_option maxRecDepth 100000 in
theorem dd_Q_more_45 : (decode prog_1_method_23_code 45 = .ok (.iaload, 1)) ∧ (decode prog_1_method_23_code 46 = .ok (.iload_n 2, 1)) ∧ (decode prog_1_method_23_code 47 = .ok (.iadd, 1)) ∧ (decode prog_1_method_23_code 48 = .ok (.aload_n 0, 1)) ∧ (decode prog_1_method_23_code 49 = .ok (.getfield 19, 3)) ∧ (decode prog_1_method_23_code 52 = .ok (.iload_n 1, 1)) ∧ (decode prog_1_method_23_code 53 = .ok (.invokevirtual 156, 3)) ∧ (decode prog_1_method_23_code 56 = .ok (.isub, 1)) ∧ (decode prog_1_method_23_code 57 = .ok (.invokevirtual 204, 3)) ∧ (decode prog_1_method_23_code 60 = .ok (.aload_n 0, 1)) ∧ (decode prog_1_method_23_code 61 = .ok (.getfield 43, 3)) ∧ (decode prog_1_method_23_code 64 = .ok (.aload_n 0, 1)) ∧ (decode prog_1_method_23_code 65 = .ok (.getfield 19, 3)) ∧ (decode prog_1_method_23_code 68 = .ok (.getfield 103, 3)) ∧ (decode prog_1_method_23_code 71 = .ok (.invokevirtual 208, 3)) ∧ (decode prog_1_method_23_code 74 = .ok (.ifCond .eq 5, 3)) ∧ (decode prog_1_method_23_code 77 = .ok (.iload_n 2, 1)) ∧ (decode prog_1_method_23_code 78 = .ok (.ireturn, 1)) ∧ (decode prog_1_method_23_code 79 = .ok (.iinc 2 1, 3)) ∧ (decode prog_1_method_23_code 82 = .ok (.goto (-56), 3)) ∧ (decode prog_1_method_23_code 85 = .ok (.bipush (-4), 2)) ∧ (decode prog_1_method_23_code 87 = .ok (.ireturn, 1)) := by
  have h : List.drop 45 prog_1_method_23_code.data.toList = 0x2e :: _ := rfl
  refine ⟨zq_k_n 46 h rfl (zq_o_46 _), ?_⟩
  replace h := zq_nx1 (q := 46) h rfl
  refine ⟨zq_k_n 28 h rfl (zq_o_28 _), ?_⟩
  replace h := zq_nx1 (q := 47) h rfl
  refine ⟨zq_k_n 96 h rfl (zq_o_96 _), ?_⟩
  replace h := zq_nx1 (q := 48) h rfl
  refine ⟨zq_k_n 42 h rfl (zq_o_42 _), ?_⟩
  replace h := zq_nx1 (q := 49) h rfl
  refine ⟨zq_k_u2 180 (fun z => .getfield z) 19 h rfl (zq_o_180 _) (by decide +kernel), ?_⟩
  replace h := zq_nx3 (q := 52) h rfl
  refine ⟨zq_k_n 27 h rfl (zq_o_27 _), ?_⟩
  replace h := zq_nx1 (q := 53) h rfl
  refine ⟨zq_k_u2 182 (fun z => .invokevirtual z) 156 h rfl (zq_o_182 _) (by decide +kernel), ?_⟩
  replace h := zq_nx3 (q := 56) h rfl
  refine ⟨zq_k_n 100 h rfl (zq_o_100 _), ?_⟩
  replace h := zq_nx1 (q := 57) h rfl
  refine ⟨zq_k_u2 182 (fun z => .invokevirtual z) 204 h rfl (zq_o_182 _) (by decide +kernel), ?_⟩
  replace h := zq_nx3 (q := 60) h rfl
  refine ⟨zq_k_n 42 h rfl (zq_o_42 _), ?_⟩
  replace h := zq_nx1 (q := 61) h rfl
  refine ⟨zq_k_u2 180 (fun z => .getfield z) 43 h rfl (zq_o_180 _) (by decide +kernel), ?_⟩
  replace h := zq_nx3 (q := 64) h rfl
  refine ⟨zq_k_n 42 h rfl (zq_o_42 _), ?_⟩
  replace h := zq_nx1 (q := 65) h rfl
  refine ⟨zq_k_u2 180 (fun z => .getfield z) 19 h rfl (zq_o_180 _) (by decide +kernel), ?_⟩
  replace h := zq_nx3 (q := 68) h rfl
  refine ⟨zq_k_u2 180 (fun z => .getfield z) 103 h rfl (zq_o_180 _) (by decide +kernel), ?_⟩
  replace h := zq_nx3 (q := 71) h rfl
  refine ⟨zq_k_u2 182 (fun z => .invokevirtual z) 208 h rfl (zq_o_182 _) (by decide +kernel), ?_⟩
  replace h := zq_nx3 (q := 74) h rfl
  refine ⟨zq_k_s2 153 (fun z => .ifCond .eq z) 5 h rfl (zq_o_153 _) (by decide +kernel), ?_⟩
  replace h := zq_nx3 (q := 77) h rfl
  refine ⟨zq_k_n 28 h rfl (zq_o_28 _), ?_⟩
  replace h := zq_nx1 (q := 78) h rfl
  refine ⟨zq_k_n 172 h rfl (zq_o_172 _), ?_⟩
  replace h := zq_nx1 (q := 79) h rfl
  refine ⟨zq_k_iinc 2 1 h rfl (zq_o_132 _) (by decide +kernel) (by decide +kernel), ?_⟩
  replace h := zq_nx3 (q := 82) h rfl
  refine ⟨zq_k_s2 167 (fun z => .goto z) (-56) h rfl (zq_o_167 _) (by decide +kernel), ?_⟩
  replace h := zq_nx3 (q := 85) h rfl
  refine ⟨zq_k_s1 16 (fun z => .bipush z) (-4) h rfl (zq_o_16 _) (by decide +kernel), ?_⟩
  replace h := zq_nx2 (q := 87) h rfl
  exact zq_k_n 172 h rfl (zq_o_172 _)
def f_Q_more_26b (rec26 : Nat → Int32 → Int32 → mH → Option (Int32 × mH)) (b0 : Nat) (b1 : Int32) (b2 : Int32) (h : mH) : Option (Int32 × mH) :=
  if (9 : Int32) < b2 then
    some (((-4) : Int32), h)
  else
    bd1 (gR h b0 0 6) fun x17 =>
    bd1 (gR h b0 0 1) fun x19 =>
    bd1 (gR h x19 4 11) fun x21 =>
    bd1 (aI h 0 x21 b1) fun x23 =>
    bd1 (gR h b0 0 1) fun x25 =>
    bd1 (kC h x25 4) fun _ =>
    bd2 (f_Realm_brokenByOne x25 b1 h) fun x31 h29 =>
    bd1 (kC h29 x17 2) fun _ =>
    bd1 (f_Planner_grant x17 b1 ((x23 + b2) - x31) h29) fun h34 =>
    bd1 (gR h34 b0 0 6) fun x36 =>
    bd1 (gR h34 b0 0 1) fun x38 =>
    bd1 (gI h34 x38 4 4) fun x40 =>
    bd1 (kC h34 x36 2) fun _ =>
    bd2 (f_Planner_canMeet x36 x40 h34) fun x46 h44 =>
    if x46 = 0 then
      rec26 b0 b1 (b2 + (1 : Int32)) h44
    else
      some (b2, h44)
set_option maxRecDepth 20000 in
theorem t_Q_more_26b {sc : Nat × (Nat → Int32)} (rec26 : Nat → Int32 → Int32 → mH → Option (Int32 × mH)) (hrec26 : ∀ (b0 : Nat) (b1 : Int32) (b2 : Int32) (h : mH) (r : Int32) (h' : mH), rec26 b0 b1 b2 h = some (r, h') → G sc y_Q_more prog_1_method_23_code 3 (some .int) 3 68 26 [(0, .ref b0), (1, .int b1), (2, .int b2)] [] h (some (.int r)) h') (b0 : Nat) (b1 : Int32) (b2 : Int32) (h : mH) (r : Int32) (h' : mH) (hf : f_Q_more_26b rec26 b0 b1 b2 h = some (r, h')) : G sc y_Q_more prog_1_method_23_code 3 (some .int) 3 68 26 [(0, .ref b0), (1, .int b1), (2, .int b2)] [] h (some (.int r)) h' := by
  unfold f_Q_more_26b at hf
  refine g_iload_n (pc := 26) 2 dd_Q_more_0.2.2.2.2.2.2.2.2.2.2.2.2.2.2.1 rfl rfl ?_
  refine g_bipush (pc := 27) (9 : Int32) dd_Q_more_0.2.2.2.2.2.2.2.2.2.2.2.2.2.2.2.1 (by decide) ?_
  refine g_icmpgt (pc := 29) 85 dd_Q_more_0.2.2.2.2.2.2.2.2.2.2.2.2.2.2.2.2.1 (by decide) (fun c48 => ?_) (fun c48 => ?_)
  · replace hf := (if_pos c48).symm.trans hf
    refine g_bipush (pc := 85) ((-4) : Int32) dd_Q_more_45.2.2.2.2.2.2.2.2.2.2.2.2.2.2.2.2.2.2.2.2.1 (by decide) ?_
    obtain ⟨rfl, rfl⟩ := ret2 hf
    exact g_iret (pc := 87) rfl dd_Q_more_45.2.2.2.2.2.2.2.2.2.2.2.2.2.2.2.2.2.2.2.2.2
  · replace hf := (if_neg c48).symm.trans hf
    refine g_aload_n (pc := 32) 0 dd_Q_more_0.2.2.2.2.2.2.2.2.2.2.2.2.2.2.2.2.2.1 rfl rfl ?_
    obtain ⟨x17, e18, hf⟩ := bd1_e hf
    refine g_get (pc := 33) (ci := 0) (kk := 6) dd_Q_more_0.2.2.2.2.2.2.2.2.2.2.2.2.2.2.2.2.2.2.1 rfl in_Q (by decide) wd_302 (gR_spec e18) ?_
    refine g_iload_n (pc := 36) 1 dd_Q_more_0.2.2.2.2.2.2.2.2.2.2.2.2.2.2.2.2.2.2.2.1 rfl rfl ?_
    refine g_aload_n (pc := 37) 0 dd_Q_more_0.2.2.2.2.2.2.2.2.2.2.2.2.2.2.2.2.2.2.2.2.1 rfl rfl ?_
    obtain ⟨x19, e20, hf⟩ := bd1_e hf
    refine g_get (pc := 38) (ci := 0) (kk := 1) dd_Q_more_0.2.2.2.2.2.2.2.2.2.2.2.2.2.2.2.2.2.2.2.2.2.1 rfl in_Q (by decide) wd_297 (gR_spec e20) ?_
    obtain ⟨x21, e22, hf⟩ := bd1_e hf
    refine g_get (pc := 41) (ci := 4) (kk := 11) dd_Q_more_0.2.2.2.2.2.2.2.2.2.2.2.2.2.2.2.2.2.2.2.2.2.2.1 rfl in_Realm (by decide) wd_133 (gR_spec e22) ?_
    refine g_iload_n (pc := 44) 1 dd_Q_more_0.2.2.2.2.2.2.2.2.2.2.2.2.2.2.2.2.2.2.2.2.2.2.2 rfl rfl ?_
    obtain ⟨x23, e24, hf⟩ := bd1_e hf
    refine g_iald (pc := 45) dd_Q_more_45.1 e24 ?_
    refine g_iload_n (pc := 46) 2 dd_Q_more_45.2.1 rfl rfl ?_
    refine g_iadd (pc := 47) dd_Q_more_45.2.2.1 ?_
    refine g_aload_n (pc := 48) 0 dd_Q_more_45.2.2.2.1 rfl rfl ?_
    obtain ⟨x25, e26, hf⟩ := bd1_e hf
    refine g_get (pc := 49) (ci := 0) (kk := 1) dd_Q_more_45.2.2.2.2.1 rfl in_Q (by decide) wd_297 (gR_spec e26) ?_
    refine g_iload_n (pc := 52) 1 dd_Q_more_45.2.2.2.2.2.1 rfl rfl ?_
    obtain ⟨u28, e27, hf⟩ := bd1_e hf
    obtain ⟨x31, h29, e30, hf⟩ := bd2_e hf
    refine g_callV (pc := 53) (ci := 4) [.int b1] (site_of si_Realm_brokenByOne (by decide) (by decide)) wd_542 wd_543 wd_544 dd_Q_more_45.2.2.2.2.2.2.1 rfl e27 (Nat.le_of_ble_eq_true rfl) (fun z => absurd z si_na_Realm_brokenByOne) (fun z => absurd z si_na_Realm_brokenByOne) (fun z => absurd z si_na_Realm_brokenByOne) (c_Realm_brokenByOne e30) rfl ?_
    refine g_st [.int x31, .int (x23 + b2), .int b1, .ref x17] rfl ?_
    refine g_isub (pc := 56) dd_Q_more_45.2.2.2.2.2.2.2.1 ?_
    obtain ⟨u33, e32, hf⟩ := bd1_e hf
    obtain ⟨h34, e35, hf⟩ := bd1_e hf
    refine g_callV (pc := 57) (ci := 2) [.int b1, .int ((x23 + b2) - x31)] (site_of si_Planner_grant (by decide) (by decide)) wd_696 wd_697 wd_698 dd_Q_more_45.2.2.2.2.2.2.2.2.1 rfl e32 (Nat.le_of_ble_eq_true rfl) (fun z => absurd z si_na_Planner_grant) (fun z => absurd z si_na_Planner_grant) (fun z => absurd z si_na_Planner_grant) (c_Planner_grant e35) rfl ?_
    refine g_st [] rfl ?_
    refine g_aload_n (pc := 60) 0 dd_Q_more_45.2.2.2.2.2.2.2.2.2.1 rfl rfl ?_
    obtain ⟨x36, e37, hf⟩ := bd1_e hf
    refine g_get (pc := 61) (ci := 0) (kk := 6) dd_Q_more_45.2.2.2.2.2.2.2.2.2.2.1 rfl in_Q (by decide) wd_302 (gR_spec e37) ?_
    refine g_aload_n (pc := 64) 0 dd_Q_more_45.2.2.2.2.2.2.2.2.2.2.2.1 rfl rfl ?_
    obtain ⟨x38, e39, hf⟩ := bd1_e hf
    refine g_get (pc := 65) (ci := 0) (kk := 1) dd_Q_more_45.2.2.2.2.2.2.2.2.2.2.2.2.1 rfl in_Q (by decide) wd_297 (gR_spec e39) ?_
    obtain ⟨x40, e41, hf⟩ := bd1_e hf
    refine g_get (pc := 68) (ci := 4) (kk := 4) dd_Q_more_45.2.2.2.2.2.2.2.2.2.2.2.2.2.1 rfl in_Realm (by decide) wd_109 (gI_spec e41) ?_
    obtain ⟨u43, e42, hf⟩ := bd1_e hf
    obtain ⟨x46, h44, e45, hf⟩ := bd2_e hf
    refine g_callV (pc := 71) (ci := 2) [.int x40] (site_of si_Planner_canMeet (by decide) (by decide)) wd_701 wd_702 wd_703 dd_Q_more_45.2.2.2.2.2.2.2.2.2.2.2.2.2.2.1 rfl e42 (Nat.le_of_ble_eq_true rfl) (fun z => absurd z si_na_Planner_canMeet) (fun z => absurd z si_na_Planner_canMeet) (fun z => absurd z si_na_Planner_canMeet) (c_Planner_canMeet e45) rfl ?_
    refine g_st [.int x46] rfl ?_
    refine g_ifeq (pc := 74) 79 dd_Q_more_45.2.2.2.2.2.2.2.2.2.2.2.2.2.2.2.1 (by decide) (fun c47 => ?_) (fun c47 => ?_)
    · replace hf := (if_pos c47).symm.trans hf
      refine g_iinc (pc := 79) 2 (b2 + (1 : Int32)) [(2, .int (b2 + (1 : Int32))), (0, .ref b0), (1, .int b1)] dd_Q_more_45.2.2.2.2.2.2.2.2.2.2.2.2.2.2.2.2.2.2.1 rfl rfl (Nat.le_of_ble_eq_true rfl) rfl ?_
      refine g_goto (pc := 82) 26 dd_Q_more_45.2.2.2.2.2.2.2.2.2.2.2.2.2.2.2.2.2.2.2.1 (by decide) ?_
      refine g_lv [1, 2, 0] rfl ?_
      exact hrec26 _ _ _ _ _ _  hf
    · replace hf := (if_neg c47).symm.trans hf
      refine g_iload_n (pc := 77) 2 dd_Q_more_45.2.2.2.2.2.2.2.2.2.2.2.2.2.2.2.2.1 rfl rfl ?_
      obtain ⟨rfl, rfl⟩ := ret2 hf
      exact g_iret (pc := 78) rfl dd_Q_more_45.2.2.2.2.2.2.2.2.2.2.2.2.2.2.2.2.2.1
def f_Q_more_26  : Nat → Nat → Int32 → Int32 → mH → Option (Int32 × mH)
  | 0 => fun _ _ _ _ => none
  | n + 1 => f_Q_more_26b  (f_Q_more_26  n)
theorem t_Q_more_26 {sc : Nat × (Nat → Int32)}  : ∀ (n : Nat) (b0 : Nat) (b1 : Int32) (b2 : Int32) (h : mH) (r : Int32) (h' : mH) (hf : f_Q_more_26  n b0 b1 b2 h = some (r, h')), G sc y_Q_more prog_1_method_23_code 3 (some .int) 3 68 26 [(0, .ref b0), (1, .int b1), (2, .int b2)] [] h (some (.int r)) h'
  | 0, _, _, _, _, _, _, hf => by cases hf
  | n + 1, _, _, _, _, _, _, hf => t_Q_more_26b  (f_Q_more_26  n) (t_Q_more_26  n) _ _ _ _ _ _ hf
def f_Q_more_0  (a0 : Nat) (a1 : Int32) (h : mH) : Option (Int32 × mH) :=
  bd1 (gR h a0 0 1) fun x1 =>
  bd1 (kC h x1 4) fun _ =>
  bd2 (f_Realm_hasOne x1 a1 h) fun x7 h5 =>
  if x7 = 0 then
    some (((-1) : Int32), h5)
  else
    bd1 (gR h5 a0 0 6) fun x8 =>
    bd1 (gR h5 a0 0 1) fun x10 =>
    bd1 (kC h5 x8 2) fun _ =>
    bd1 (f_Planner_load x8 x10 h5) fun h14 =>
    f_Q_more_26  FU a0 a1 (0 : Int32) h14
set_option maxRecDepth 20000 in
theorem t_Q_more_0 {sc : Nat × (Nat → Int32)}  (a0 : Nat) (a1 : Int32) (h : mH) (r : Int32) (h' : mH) (hf : f_Q_more_0  a0 a1 h = some (r, h')) : G sc y_Q_more prog_1_method_23_code 3 (some .int) 3 68 0 [(0, .ref a0), (1, .int a1)] [] h (some (.int r)) h' := by
  unfold f_Q_more_0 at hf
  refine g_aload_n (pc := 0) 0 dd_Q_more_0.1 rfl rfl ?_
  obtain ⟨x1, e2, hf⟩ := bd1_e hf
  refine g_get (pc := 1) (ci := 0) (kk := 1) dd_Q_more_0.2.1 rfl in_Q (by decide) wd_297 (gR_spec e2) ?_
  refine g_iload_n (pc := 4) 1 dd_Q_more_0.2.2.1 rfl rfl ?_
  obtain ⟨u4, e3, hf⟩ := bd1_e hf
  obtain ⟨x7, h5, e6, hf⟩ := bd2_e hf
  refine g_callV (pc := 5) (ci := 4) [.int a1] (site_of si_Realm_hasOne (by decide) (by decide)) wd_541 wd_492 wd_493 dd_Q_more_0.2.2.2.1 rfl e3 (Nat.le_of_ble_eq_true rfl) (fun z => absurd z si_na_Realm_hasOne) (fun z => absurd z si_na_Realm_hasOne) (fun z => absurd z si_na_Realm_hasOne) (c_Realm_hasOne e6) rfl ?_
  refine g_st [.int x7] rfl ?_
  refine g_ifne (pc := 8) 13 dd_Q_more_0.2.2.2.2.1 (by decide) (fun c16 => ?_) (fun c16 => ?_)
  · replace hf := (if_neg c16).symm.trans hf
    refine g_aload_n (pc := 13) 0 dd_Q_more_0.2.2.2.2.2.2.2.1 rfl rfl ?_
    obtain ⟨x8, e9, hf⟩ := bd1_e hf
    refine g_get (pc := 14) (ci := 0) (kk := 6) dd_Q_more_0.2.2.2.2.2.2.2.2.1 rfl in_Q (by decide) wd_302 (gR_spec e9) ?_
    refine g_aload_n (pc := 17) 0 dd_Q_more_0.2.2.2.2.2.2.2.2.2.1 rfl rfl ?_
    obtain ⟨x10, e11, hf⟩ := bd1_e hf
    refine g_get (pc := 18) (ci := 0) (kk := 1) dd_Q_more_0.2.2.2.2.2.2.2.2.2.2.1 rfl in_Q (by decide) wd_297 (gR_spec e11) ?_
    obtain ⟨u13, e12, hf⟩ := bd1_e hf
    obtain ⟨h14, e15, hf⟩ := bd1_e hf
    refine g_callV (pc := 21) (ci := 2) [.ref x10] (site_of si_Planner_load (by decide) (by decide)) wd_661 wd_662 wd_663 dd_Q_more_0.2.2.2.2.2.2.2.2.2.2.2.1 rfl e12 (Nat.le_of_ble_eq_true rfl) (fun z => absurd z si_na_Planner_load) (fun z => absurd z si_na_Planner_load) (fun z => absurd z si_na_Planner_load) (c_Planner_load e15) rfl ?_
    refine g_st [] rfl ?_
    refine g_iconst (pc := 24) (0 : Int32) dd_Q_more_0.2.2.2.2.2.2.2.2.2.2.2.2.1 (by decide) ?_
    refine g_istore_n (pc := 25) [(2, .int (0 : Int32)), (0, .ref a0), (1, .int a1)] dd_Q_more_0.2.2.2.2.2.2.2.2.2.2.2.2.2.1 rfl (Nat.le_of_ble_eq_true rfl) rfl ?_
    refine g_lv [1, 2, 0] rfl ?_
    exact t_Q_more_26  FU _ _ _ _ _ _  hf
  · replace hf := (if_pos c16).symm.trans hf
    refine g_iconst (pc := 11) ((-1) : Int32) dd_Q_more_0.2.2.2.2.2.1 (by decide) ?_
    obtain ⟨rfl, rfl⟩ := ret2 hf
    exact g_iret (pc := 12) rfl dd_Q_more_0.2.2.2.2.2.2.1
def f_Q_more (a0 : Nat) (a1 : Int32) (h : mH) : Option (Int32 × mH) := f_Q_more_0 a0 a1 h
theorem c_Q_more {sc : Nat × (Nat → Int32)} {a0 : Nat} {a1 : Int32} {h : mH} {r : Int32} {h' : mH} (hf : f_Q_more a0 a1 h = some (r, h')) : MM sc y_Q_more prog_1_method_23_code 3 (some .int) 3 68 [.ref a0, .int a1] h (some (.int r)) h' :=
  mm_of_G si_pn_Q (Nat.le_of_ble_eq_true rfl) (t_Q_more_0 _ _ _ _ _ hf)
end
/-! 33.own -/
section
/-! Q together (I)I -/
set_option maxRecDepth 100000 in
theorem dd_Q_together_0 : (decode prog_1_method_24_code 0 = .ok (.iload_n 1, 1)) ∧ (decode prog_1_method_24_code 1 = .ok (.iconst 0, 1)) ∧ (decode prog_1_method_24_code 2 = .ok (.iconst 1, 1)) ∧ (decode prog_1_method_24_code 3 = .ok (.invokestatic 62, 3)) ∧ (decode prog_1_method_24_code 6 = .ok (.ifCond .ne 5, 3)) ∧ (decode prog_1_method_24_code 9 = .ok (.iconst (-1), 1)) ∧ (decode prog_1_method_24_code 10 = .ok (.ireturn, 1)) ∧ (decode prog_1_method_24_code 11 = .ok (.aload_n 0, 1)) ∧ (decode prog_1_method_24_code 12 = .ok (.getfield 43, 3)) ∧ (decode prog_1_method_24_code 15 = .ok (.aload_n 0, 1)) ∧ (decode prog_1_method_24_code 16 = .ok (.getfield 19, 3)) ∧ (decode prog_1_method_24_code 19 = .ok (.invokevirtual 195, 3)) ∧ (decode prog_1_method_24_code 22 = .ok (.iconst 0, 1)) ∧ (decode prog_1_method_24_code 23 = .ok (.istore_n 2, 1)) ∧ (decode prog_1_method_24_code 24 = .ok (.iconst 0, 1)) ∧ (decode prog_1_method_24_code 25 = .ok (.istore_n 3, 1)) ∧ (decode prog_1_method_24_code 26 = .ok (.iload_n 3, 1)) ∧ (decode prog_1_method_24_code 27 = .ok (.aload_n 0, 1)) ∧ (decode prog_1_method_24_code 28 = .ok (.getfield 19, 3)) ∧ (decode prog_1_method_24_code 31 = .ok (.getfield 103, 3)) ∧ (decode prog_1_method_24_code 34 = .ok (.if_icmp .gt 59, 3)) ∧ (decode prog_1_method_24_code 37 = .ok (.iload_n 3, 1)) ∧ (decode prog_1_method_24_code 38 = .ok (.invokestatic 180, 3)) ∧ (decode prog_1_method_24_code 41 = .ok (.iload_n 2, 1)) := by
  have h : List.drop 0 prog_1_method_24_code.data.toList = 0x1b :: _ := rfl
  refine ⟨zq_k_n 27 h rfl (zq_o_27 _), ?_⟩
  replace h := zq_nx1 (q := 1) h rfl
  refine ⟨zq_k_n 3 h rfl (zq_o_3 _), ?_⟩
  replace h := zq_nx1 (q := 2) h rfl
  refine ⟨zq_k_n 4 h rfl (zq_o_4 _), ?_⟩
  replace h := zq_nx1 (q := 3) h rfl
  refine ⟨zq_k_u2 184 (fun z => .invokestatic z) 62 h rfl (zq_o_184 _) (by decide +kernel), ?_⟩
  replace h := zq_nx3 (q := 6) h rfl
  refine ⟨zq_k_s2 154 (fun z => .ifCond .ne z) 5 h rfl (zq_o_154 _) (by decide +kernel), ?_⟩
  replace h := zq_nx3 (q := 9) h rfl
  refine ⟨zq_k_n 2 h rfl (zq_o_2 _), ?_⟩
  replace h := zq_nx1 (q := 10) h rfl
  refine ⟨zq_k_n 172 h rfl (zq_o_172 _), ?_⟩
  replace h := zq_nx1 (q := 11) h rfl
  refine ⟨zq_k_n 42 h rfl (zq_o_42 _), ?_⟩
  replace h := zq_nx1 (q := 12) h rfl
  refine ⟨zq_k_u2 180 (fun z => .getfield z) 43 h rfl (zq_o_180 _) (by decide +kernel), ?_⟩
  replace h := zq_nx3 (q := 15) h rfl
  refine ⟨zq_k_n 42 h rfl (zq_o_42 _), ?_⟩
  replace h := zq_nx1 (q := 16) h rfl
  refine ⟨zq_k_u2 180 (fun z => .getfield z) 19 h rfl (zq_o_180 _) (by decide +kernel), ?_⟩
  replace h := zq_nx3 (q := 19) h rfl
  refine ⟨zq_k_u2 182 (fun z => .invokevirtual z) 195 h rfl (zq_o_182 _) (by decide +kernel), ?_⟩
  replace h := zq_nx3 (q := 22) h rfl
  refine ⟨zq_k_n 3 h rfl (zq_o_3 _), ?_⟩
  replace h := zq_nx1 (q := 23) h rfl
  refine ⟨zq_k_n 61 h rfl (zq_o_61 _), ?_⟩
  replace h := zq_nx1 (q := 24) h rfl
  refine ⟨zq_k_n 3 h rfl (zq_o_3 _), ?_⟩
  replace h := zq_nx1 (q := 25) h rfl
  refine ⟨zq_k_n 62 h rfl (zq_o_62 _), ?_⟩
  replace h := zq_nx1 (q := 26) h rfl
  refine ⟨zq_k_n 29 h rfl (zq_o_29 _), ?_⟩
  replace h := zq_nx1 (q := 27) h rfl
  refine ⟨zq_k_n 42 h rfl (zq_o_42 _), ?_⟩
  replace h := zq_nx1 (q := 28) h rfl
  refine ⟨zq_k_u2 180 (fun z => .getfield z) 19 h rfl (zq_o_180 _) (by decide +kernel), ?_⟩
  replace h := zq_nx3 (q := 31) h rfl
  refine ⟨zq_k_u2 180 (fun z => .getfield z) 103 h rfl (zq_o_180 _) (by decide +kernel), ?_⟩
  replace h := zq_nx3 (q := 34) h rfl
  refine ⟨zq_k_s2 163 (fun z => .if_icmp .gt z) 59 h rfl (zq_o_163 _) (by decide +kernel), ?_⟩
  replace h := zq_nx3 (q := 37) h rfl
  refine ⟨zq_k_n 29 h rfl (zq_o_29 _), ?_⟩
  replace h := zq_nx1 (q := 38) h rfl
  refine ⟨zq_k_u2 184 (fun z => .invokestatic z) 180 h rfl (zq_o_184 _) (by decide +kernel), ?_⟩
  replace h := zq_nx3 (q := 41) h rfl
  exact zq_k_n 28 h rfl (zq_o_28 _)
set_option maxRecDepth 100000 in
theorem dd_Q_together_42 : (decode prog_1_method_24_code 42 = .ok (.invokestatic 180, 3)) ∧ (decode prog_1_method_24_code 45 = .ok (.if_icmp .le 7, 3)) ∧ (decode prog_1_method_24_code 48 = .ok (.iconst 1, 1)) ∧ (decode prog_1_method_24_code 49 = .ok (.goto 4, 3)) ∧ (decode prog_1_method_24_code 52 = .ok (.iconst 0, 1)) ∧ (decode prog_1_method_24_code 53 = .ok (.istore 4, 2)) ∧ (decode prog_1_method_24_code 55 = .ok (.iload 4, 2)) ∧ (decode prog_1_method_24_code 57 = .ok (.ifCond .eq 30, 3)) ∧ (decode prog_1_method_24_code 60 = .ok (.iload_n 3, 1)) ∧ (decode prog_1_method_24_code 61 = .ok (.aload_n 0, 1)) ∧ (decode prog_1_method_24_code 62 = .ok (.getfield 19, 3)) ∧ (decode prog_1_method_24_code 65 = .ok (.getfield 103, 3)) ∧ (decode prog_1_method_24_code 68 = .ok (.invokestatic 211, 3)) ∧ (decode prog_1_method_24_code 71 = .ok (.ifCond .eq 16, 3)) ∧ (decode prog_1_method_24_code 74 = .ok (.aload_n 0, 1)) ∧ (decode prog_1_method_24_code 75 = .ok (.getfield 43, 3)) ∧ (decode prog_1_method_24_code 78 = .ok (.iload_n 3, 1)) ∧ (decode prog_1_method_24_code 79 = .ok (.invokevirtual 208, 3)) ∧ (decode prog_1_method_24_code 82 = .ok (.ifCond .eq 5, 3)) ∧ (decode prog_1_method_24_code 85 = .ok (.iload_n 3, 1)) ∧ (decode prog_1_method_24_code 86 = .ok (.istore_n 2, 1)) ∧ (decode prog_1_method_24_code 87 = .ok (.iinc 3 1, 3)) ∧ (decode prog_1_method_24_code 90 = .ok (.goto (-64), 3)) ∧ (decode prog_1_method_24_code 93 = .ok (.iload_n 1, 1)) := by
  have h : List.drop 42 prog_1_method_24_code.data.toList = 0xb8 :: _ := rfl
  refine ⟨zq_k_u2 184 (fun z => .invokestatic z) 180 h rfl (zq_o_184 _) (by decide +kernel), ?_⟩
  replace h := zq_nx3 (q := 45) h rfl
  refine ⟨zq_k_s2 164 (fun z => .if_icmp .le z) 7 h rfl (zq_o_164 _) (by decide +kernel), ?_⟩
  replace h := zq_nx3 (q := 48) h rfl
  refine ⟨zq_k_n 4 h rfl (zq_o_4 _), ?_⟩
  replace h := zq_nx1 (q := 49) h rfl
  refine ⟨zq_k_s2 167 (fun z => .goto z) 4 h rfl (zq_o_167 _) (by decide +kernel), ?_⟩
  replace h := zq_nx3 (q := 52) h rfl
  refine ⟨zq_k_n 3 h rfl (zq_o_3 _), ?_⟩
  replace h := zq_nx1 (q := 53) h rfl
  refine ⟨zq_k_u1 54 (fun z => .istore z) 4 h rfl (zq_o_54 _) (by decide +kernel), ?_⟩
  replace h := zq_nx2 (q := 55) h rfl
  refine ⟨zq_k_u1 21 (fun z => .iload z) 4 h rfl (zq_o_21 _) (by decide +kernel), ?_⟩
  replace h := zq_nx2 (q := 57) h rfl
  refine ⟨zq_k_s2 153 (fun z => .ifCond .eq z) 30 h rfl (zq_o_153 _) (by decide +kernel), ?_⟩
  replace h := zq_nx3 (q := 60) h rfl
  refine ⟨zq_k_n 29 h rfl (zq_o_29 _), ?_⟩
  replace h := zq_nx1 (q := 61) h rfl
  refine ⟨zq_k_n 42 h rfl (zq_o_42 _), ?_⟩
  replace h := zq_nx1 (q := 62) h rfl
  refine ⟨zq_k_u2 180 (fun z => .getfield z) 19 h rfl (zq_o_180 _) (by decide +kernel), ?_⟩
  replace h := zq_nx3 (q := 65) h rfl
  refine ⟨zq_k_u2 180 (fun z => .getfield z) 103 h rfl (zq_o_180 _) (by decide +kernel), ?_⟩
  replace h := zq_nx3 (q := 68) h rfl
  refine ⟨zq_k_u2 184 (fun z => .invokestatic z) 211 h rfl (zq_o_184 _) (by decide +kernel), ?_⟩
  replace h := zq_nx3 (q := 71) h rfl
  refine ⟨zq_k_s2 153 (fun z => .ifCond .eq z) 16 h rfl (zq_o_153 _) (by decide +kernel), ?_⟩
  replace h := zq_nx3 (q := 74) h rfl
  refine ⟨zq_k_n 42 h rfl (zq_o_42 _), ?_⟩
  replace h := zq_nx1 (q := 75) h rfl
  refine ⟨zq_k_u2 180 (fun z => .getfield z) 43 h rfl (zq_o_180 _) (by decide +kernel), ?_⟩
  replace h := zq_nx3 (q := 78) h rfl
  refine ⟨zq_k_n 29 h rfl (zq_o_29 _), ?_⟩
  replace h := zq_nx1 (q := 79) h rfl
  refine ⟨zq_k_u2 182 (fun z => .invokevirtual z) 208 h rfl (zq_o_182 _) (by decide +kernel), ?_⟩
  replace h := zq_nx3 (q := 82) h rfl
  refine ⟨zq_k_s2 153 (fun z => .ifCond .eq z) 5 h rfl (zq_o_153 _) (by decide +kernel), ?_⟩
  replace h := zq_nx3 (q := 85) h rfl
  refine ⟨zq_k_n 29 h rfl (zq_o_29 _), ?_⟩
  replace h := zq_nx1 (q := 86) h rfl
  refine ⟨zq_k_n 61 h rfl (zq_o_61 _), ?_⟩
  replace h := zq_nx1 (q := 87) h rfl
  refine ⟨zq_k_iinc 3 1 h rfl (zq_o_132 _) (by decide +kernel) (by decide +kernel), ?_⟩
  replace h := zq_nx3 (q := 90) h rfl
  refine ⟨zq_k_s2 167 (fun z => .goto z) (-64) h rfl (zq_o_167 _) (by decide +kernel), ?_⟩
  replace h := zq_nx3 (q := 93) h rfl
  exact zq_k_n 27 h rfl (zq_o_27 _)
set_option maxRecDepth 100000 in
theorem dd_Q_together_94 : (decode prog_1_method_24_code 94 = .ok (.ifCond .ne 10, 3)) ∧ (decode prog_1_method_24_code 97 = .ok (.iload_n 2, 1)) ∧ (decode prog_1_method_24_code 98 = .ok (.invokestatic 180, 3)) ∧ (decode prog_1_method_24_code 101 = .ok (.goto 4, 3)) ∧ (decode prog_1_method_24_code 104 = .ok (.iload_n 2, 1)) ∧ (decode prog_1_method_24_code 105 = .ok (.ireturn, 1)) := by
  have h : List.drop 94 prog_1_method_24_code.data.toList = 0x9a :: _ := rfl
  refine ⟨zq_k_s2 154 (fun z => .ifCond .ne z) 10 h rfl (zq_o_154 _) (by decide +kernel), ?_⟩
  replace h := zq_nx3 (q := 97) h rfl
  refine ⟨zq_k_n 28 h rfl (zq_o_28 _), ?_⟩
  replace h := zq_nx1 (q := 98) h rfl
  refine ⟨zq_k_u2 184 (fun z => .invokestatic z) 180 h rfl (zq_o_184 _) (by decide +kernel), ?_⟩
  replace h := zq_nx3 (q := 101) h rfl
  refine ⟨zq_k_s2 167 (fun z => .goto z) 4 h rfl (zq_o_167 _) (by decide +kernel), ?_⟩
  replace h := zq_nx3 (q := 104) h rfl
  refine ⟨zq_k_n 28 h rfl (zq_o_28 _), ?_⟩
  replace h := zq_nx1 (q := 105) h rfl
  exact zq_k_n 172 h rfl (zq_o_172 _)
def f_Q_together_87 (rec26 : Nat → Int32 → Int32 → Int32 → mH → Option (Int32 × mH)) (b0 : Nat) (b1 : Int32) (b2 : Int32) (b3 : Int32) (h : mH) : Option (Int32 × mH) :=
  rec26 b0 b1 b2 (b3 + (1 : Int32)) h
set_option maxRecDepth 20000 in
theorem t_Q_together_87 {sc : Nat × (Nat → Int32)} (rec26 : Nat → Int32 → Int32 → Int32 → mH → Option (Int32 × mH)) (hrec26 : ∀ (b0 : Nat) (b1 : Int32) (b2 : Int32) (b3 : Int32) (h : mH) (r : Int32) (h' : mH), rec26 b0 b1 b2 b3 h = some (r, h') → G sc y_Q_together prog_1_method_24_code 5 (some .int) 3 68 26 [(0, .ref b0), (1, .int b1), (2, .int b2), (3, .int b3)] [] h (some (.int r)) h') (b0 : Nat) (b1 : Int32) (b2 : Int32) (b3 : Int32) (h : mH) (r : Int32) (h' : mH) (hf : f_Q_together_87 rec26 b0 b1 b2 b3 h = some (r, h')) : G sc y_Q_together prog_1_method_24_code 5 (some .int) 3 68 87 [(0, .ref b0), (1, .int b1), (2, .int b2), (3, .int b3)] [] h (some (.int r)) h' := by
  unfold f_Q_together_87 at hf
  refine g_iinc (pc := 87) 3 (b3 + (1 : Int32)) [(3, .int (b3 + (1 : Int32))), (0, .ref b0), (1, .int b1), (2, .int b2)] dd_Q_together_42.2.2.2.2.2.2.2.2.2.2.2.2.2.2.2.2.2.2.2.2.2.1 rfl rfl (Nat.le_of_ble_eq_true rfl) rfl ?_
  refine g_goto (pc := 90) 26 dd_Q_together_42.2.2.2.2.2.2.2.2.2.2.2.2.2.2.2.2.2.2.2.2.2.2.1 (by decide) ?_
  refine g_lv [1, 2, 3, 0] rfl ?_
  exact hrec26 _ _ _ _ _ _ _  hf
def f_Q_together_53 (rec26 : Nat → Int32 → Int32 → Int32 → mH → Option (Int32 × mH)) (b0 : Nat) (b1 : Int32) (b2 : Int32) (b3 : Int32) (s0 : Int32) (h : mH) : Option (Int32 × mH) :=
  if s0 = 0 then
    f_Q_together_87 rec26 b0 b1 b2 b3 h
  else
    bd1 (gR h b0 0 1) fun x29 =>
    bd1 (gI h x29 4 4) fun x31 =>
    bd2 (f_Q_isPart b3 x31 h) fun x35 h33 =>
    if x35 = 0 then
      f_Q_together_87 rec26 b0 b1 b2 b3 h33
    else
      bd1 (gR h33 b0 0 6) fun x36 =>
      bd1 (kC h33 x36 2) fun _ =>
      bd2 (f_Planner_canMeet x36 b3 h33) fun x42 h40 =>
      if x42 = 0 then
        f_Q_together_87 rec26 b0 b1 b2 b3 h40
      else
        f_Q_together_87 rec26 b0 b1 b3 b3 h40
set_option maxRecDepth 20000 in
theorem t_Q_together_53 {sc : Nat × (Nat → Int32)} (rec26 : Nat → Int32 → Int32 → Int32 → mH → Option (Int32 × mH)) (hrec26 : ∀ (b0 : Nat) (b1 : Int32) (b2 : Int32) (b3 : Int32) (h : mH) (r : Int32) (h' : mH), rec26 b0 b1 b2 b3 h = some (r, h') → G sc y_Q_together prog_1_method_24_code 5 (some .int) 3 68 26 [(0, .ref b0), (1, .int b1), (2, .int b2), (3, .int b3)] [] h (some (.int r)) h') (b0 : Nat) (b1 : Int32) (b2 : Int32) (b3 : Int32) (s0 : Int32) (h : mH) (r : Int32) (h' : mH) (hf : f_Q_together_53 rec26 b0 b1 b2 b3 s0 h = some (r, h')) : G sc y_Q_together prog_1_method_24_code 5 (some .int) 3 68 53 [(0, .ref b0), (1, .int b1), (2, .int b2), (3, .int b3)] [.int s0] h (some (.int r)) h' := by
  unfold f_Q_together_53 at hf
  refine g_istore (pc := 53) [(4, .int s0), (0, .ref b0), (1, .int b1), (2, .int b2), (3, .int b3)] dd_Q_together_42.2.2.2.2.2.1 (Nat.le_of_ble_eq_true rfl) rfl ?_
  refine g_iload (pc := 55) 0 dd_Q_together_42.2.2.2.2.2.2.1 rfl ?_
  refine g_ifeq (pc := 57) 87 dd_Q_together_42.2.2.2.2.2.2.2.1 (by decide) (fun c45 => ?_) (fun c45 => ?_)
  · replace hf := (if_pos c45).symm.trans hf
    refine g_lv [1, 2, 3, 4] rfl ?_
    exact t_Q_together_87 rec26 hrec26 _ _ _ _ _ _ _  hf
  · replace hf := (if_neg c45).symm.trans hf
    refine g_iload_n (pc := 60) 4 dd_Q_together_42.2.2.2.2.2.2.2.2.1 rfl rfl ?_
    refine g_aload_n (pc := 61) 1 dd_Q_together_42.2.2.2.2.2.2.2.2.2.1 rfl rfl ?_
    obtain ⟨x29, e30, hf⟩ := bd1_e hf
    refine g_get (pc := 62) (ci := 0) (kk := 1) dd_Q_together_42.2.2.2.2.2.2.2.2.2.2.1 rfl in_Q (by decide) wd_297 (gR_spec e30) ?_
    obtain ⟨x31, e32, hf⟩ := bd1_e hf
    refine g_get (pc := 65) (ci := 4) (kk := 4) dd_Q_together_42.2.2.2.2.2.2.2.2.2.2.2.1 rfl in_Realm (by decide) wd_109 (gI_spec e32) ?_
    obtain ⟨x35, h33, e34, hf⟩ := bd2_e hf
    refine g_callS (pc := 68) [.int b3, .int x31] (site_of si_Q_isPart (by decide) (by decide)) wd_719 wd_485 dd_Q_together_42.2.2.2.2.2.2.2.2.2.2.2.2.1 (Nat.le_of_ble_eq_true rfl) (fun z => absurd z si_na_Q_isPart) (fun z => absurd z si_na_Q_isPart) (fun z => absurd z si_na_Q_isPart) (c_Q_isPart e34) rfl ?_
    refine g_st [.int x35] rfl ?_
    refine g_ifeq (pc := 71) 87 dd_Q_together_42.2.2.2.2.2.2.2.2.2.2.2.2.2.1 (by decide) (fun c44 => ?_) (fun c44 => ?_)
    · replace hf := (if_pos c44).symm.trans hf
      refine g_lv [1, 2, 3, 4] rfl ?_
      exact t_Q_together_87 rec26 hrec26 _ _ _ _ _ _ _  hf
    · replace hf := (if_neg c44).symm.trans hf
      refine g_aload_n (pc := 74) 1 dd_Q_together_42.2.2.2.2.2.2.2.2.2.2.2.2.2.2.1 rfl rfl ?_
      obtain ⟨x36, e37, hf⟩ := bd1_e hf
      refine g_get (pc := 75) (ci := 0) (kk := 6) dd_Q_together_42.2.2.2.2.2.2.2.2.2.2.2.2.2.2.2.1 rfl in_Q (by decide) wd_302 (gR_spec e37) ?_
      refine g_iload_n (pc := 78) 4 dd_Q_together_42.2.2.2.2.2.2.2.2.2.2.2.2.2.2.2.2.1 rfl rfl ?_
      obtain ⟨u39, e38, hf⟩ := bd1_e hf
      obtain ⟨x42, h40, e41, hf⟩ := bd2_e hf
      refine g_callV (pc := 79) (ci := 2) [.int b3] (site_of si_Planner_canMeet (by decide) (by decide)) wd_701 wd_702 wd_703 dd_Q_together_42.2.2.2.2.2.2.2.2.2.2.2.2.2.2.2.2.2.1 rfl e38 (Nat.le_of_ble_eq_true rfl) (fun z => absurd z si_na_Planner_canMeet) (fun z => absurd z si_na_Planner_canMeet) (fun z => absurd z si_na_Planner_canMeet) (c_Planner_canMeet e41) rfl ?_
      refine g_st [.int x42] rfl ?_
      refine g_ifeq (pc := 82) 87 dd_Q_together_42.2.2.2.2.2.2.2.2.2.2.2.2.2.2.2.2.2.2.1 (by decide) (fun c43 => ?_) (fun c43 => ?_)
      · replace hf := (if_pos c43).symm.trans hf
        refine g_lv [1, 2, 3, 4] rfl ?_
        exact t_Q_together_87 rec26 hrec26 _ _ _ _ _ _ _  hf
      · replace hf := (if_neg c43).symm.trans hf
        refine g_iload_n (pc := 85) 4 dd_Q_together_42.2.2.2.2.2.2.2.2.2.2.2.2.2.2.2.2.2.2.2.1 rfl rfl ?_
        refine g_istore_n (pc := 86) [(2, .int b3), (4, .int s0), (0, .ref b0), (1, .int b1), (3, .int b3)] dd_Q_together_42.2.2.2.2.2.2.2.2.2.2.2.2.2.2.2.2.2.2.2.2.1 rfl (Nat.le_of_ble_eq_true rfl) rfl ?_
        refine g_lv [2, 3, 0, 4] rfl ?_
        exact t_Q_together_87 rec26 hrec26 _ _ _ _ _ _ _  hf
def f_Q_together_26b (rec26 : Nat → Int32 → Int32 → Int32 → mH → Option (Int32 × mH)) (b0 : Nat) (b1 : Int32) (b2 : Int32) (b3 : Int32) (h : mH) : Option (Int32 × mH) :=
  bd1 (gR h b0 0 1) fun x13 =>
  bd1 (gI h x13 4 4) fun x15 =>
  if x15 < b3 then
    if b1 = 0 then
      bd2 (f_Integer_bitCount b2 h) fun x19 h17 =>
      some (x19, h17)
    else
      some (b2, h)
  else
    bd2 (f_Integer_bitCount b3 h) fun x23 h21 =>
    bd2 (f_Integer_bitCount b2 h21) fun x26 h24 =>
    if x23 ≤ x26 then
      f_Q_together_53 rec26 b0 b1 b2 b3 (0 : Int32) h24
    else
      f_Q_together_53 rec26 b0 b1 b2 b3 (1 : Int32) h24
set_option maxRecDepth 20000 in
theorem t_Q_together_26b {sc : Nat × (Nat → Int32)} (rec26 : Nat → Int32 → Int32 → Int32 → mH → Option (Int32 × mH)) (hrec26 : ∀ (b0 : Nat) (b1 : Int32) (b2 : Int32) (b3 : Int32) (h : mH) (r : Int32) (h' : mH), rec26 b0 b1 b2 b3 h = some (r, h') → G sc y_Q_together prog_1_method_24_code 5 (some .int) 3 68 26 [(0, .ref b0), (1, .int b1), (2, .int b2), (3, .int b3)] [] h (some (.int r)) h') (b0 : Nat) (b1 : Int32) (b2 : Int32) (b3 : Int32) (h : mH) (r : Int32) (h' : mH) (hf : f_Q_together_26b rec26 b0 b1 b2 b3 h = some (r, h')) : G sc y_Q_together prog_1_method_24_code 5 (some .int) 3 68 26 [(0, .ref b0), (1, .int b1), (2, .int b2), (3, .int b3)] [] h (some (.int r)) h' := by
  unfold f_Q_together_26b at hf
  refine g_iload_n (pc := 26) 3 dd_Q_together_0.2.2.2.2.2.2.2.2.2.2.2.2.2.2.2.2.1 rfl rfl ?_
  refine g_aload_n (pc := 27) 0 dd_Q_together_0.2.2.2.2.2.2.2.2.2.2.2.2.2.2.2.2.2.1 rfl rfl ?_
  obtain ⟨x13, e14, hf⟩ := bd1_e hf
  refine g_get (pc := 28) (ci := 0) (kk := 1) dd_Q_together_0.2.2.2.2.2.2.2.2.2.2.2.2.2.2.2.2.2.2.1 rfl in_Q (by decide) wd_297 (gR_spec e14) ?_
  obtain ⟨x15, e16, hf⟩ := bd1_e hf
  refine g_get (pc := 31) (ci := 4) (kk := 4) dd_Q_together_0.2.2.2.2.2.2.2.2.2.2.2.2.2.2.2.2.2.2.2.1 rfl in_Realm (by decide) wd_109 (gI_spec e16) ?_
  refine g_icmpgt (pc := 34) 93 dd_Q_together_0.2.2.2.2.2.2.2.2.2.2.2.2.2.2.2.2.2.2.2.2.1 (by decide) (fun c28 => ?_) (fun c28 => ?_)
  · replace hf := (if_pos c28).symm.trans hf
    refine g_iload_n (pc := 93) 1 dd_Q_together_42.2.2.2.2.2.2.2.2.2.2.2.2.2.2.2.2.2.2.2.2.2.2.2 rfl rfl ?_
    refine g_ifne (pc := 94) 104 dd_Q_together_94.1 (by decide) (fun c20 => ?_) (fun c20 => ?_)
    · replace hf := (if_neg c20).symm.trans hf
      refine g_iload_n (pc := 104) 2 dd_Q_together_94.2.2.2.2.1 rfl rfl ?_
      obtain ⟨rfl, rfl⟩ := ret2 hf
      exact g_iret (pc := 105) rfl dd_Q_together_94.2.2.2.2.2
    · replace hf := (if_pos c20).symm.trans hf
      refine g_iload_n (pc := 97) 2 dd_Q_together_94.2.1 rfl rfl ?_
      obtain ⟨x19, h17, e18, hf⟩ := bd2_e hf
      refine g_callS (pc := 98) [.int b2] (site_of si_Integer_bitCount (by decide) (by decide)) wd_615 wd_616 dd_Q_together_94.2.2.1 (Nat.le_of_ble_eq_true rfl) (fun z => absurd z si_na_Integer_bitCount) (fun z => absurd z si_na_Integer_bitCount) (fun z => absurd z si_na_Integer_bitCount) (c_Integer_bitCount e18) rfl ?_
      refine g_st [.int x19] rfl ?_
      refine g_goto (pc := 101) 105 dd_Q_together_94.2.2.2.1 (by decide) ?_
      obtain ⟨rfl, rfl⟩ := ret2 hf
      exact g_iret (pc := 105) rfl dd_Q_together_94.2.2.2.2.2
  · replace hf := (if_neg c28).symm.trans hf
    refine g_iload_n (pc := 37) 3 dd_Q_together_0.2.2.2.2.2.2.2.2.2.2.2.2.2.2.2.2.2.2.2.2.2.1 rfl rfl ?_
    obtain ⟨x23, h21, e22, hf⟩ := bd2_e hf
    refine g_callS (pc := 38) [.int b3] (site_of si_Integer_bitCount (by decide) (by decide)) wd_615 wd_616 dd_Q_together_0.2.2.2.2.2.2.2.2.2.2.2.2.2.2.2.2.2.2.2.2.2.2.1 (Nat.le_of_ble_eq_true rfl) (fun z => absurd z si_na_Integer_bitCount) (fun z => absurd z si_na_Integer_bitCount) (fun z => absurd z si_na_Integer_bitCount) (c_Integer_bitCount e22) rfl ?_
    refine g_st [.int x23] rfl ?_
    refine g_iload_n (pc := 41) 2 dd_Q_together_0.2.2.2.2.2.2.2.2.2.2.2.2.2.2.2.2.2.2.2.2.2.2.2 rfl rfl ?_
    obtain ⟨x26, h24, e25, hf⟩ := bd2_e hf
    refine g_callS (pc := 42) [.int b2] (site_of si_Integer_bitCount (by decide) (by decide)) wd_615 wd_616 dd_Q_together_42.1 (Nat.le_of_ble_eq_true rfl) (fun z => absurd z si_na_Integer_bitCount) (fun z => absurd z si_na_Integer_bitCount) (fun z => absurd z si_na_Integer_bitCount) (c_Integer_bitCount e25) rfl ?_
    refine g_st [.int x26, .int x23] rfl ?_
    refine g_icmple (pc := 45) 52 dd_Q_together_42.2.1 (by decide) (fun c27 => ?_) (fun c27 => ?_)
    · replace hf := (if_pos c27).symm.trans hf
      refine g_iconst (pc := 52) (0 : Int32) dd_Q_together_42.2.2.2.2.1 (by decide) ?_
      refine g_lv [0, 1, 2, 3] rfl ?_
      exact t_Q_together_53 rec26 hrec26 _ _ _ _ _ _ _ _  hf
    · replace hf := (if_neg c27).symm.trans hf
      refine g_iconst (pc := 48) (1 : Int32) dd_Q_together_42.2.2.1 (by decide) ?_
      refine g_goto (pc := 49) 53 dd_Q_together_42.2.2.2.1 (by decide) ?_
      refine g_lv [0, 1, 2, 3] rfl ?_
      exact t_Q_together_53 rec26 hrec26 _ _ _ _ _ _ _ _  hf
def f_Q_together_26  : Nat → Nat → Int32 → Int32 → Int32 → mH → Option (Int32 × mH)
  | 0 => fun _ _ _ _ _ => none
  | n + 1 => f_Q_together_26b  (f_Q_together_26  n)
theorem t_Q_together_26 {sc : Nat × (Nat → Int32)}  : ∀ (n : Nat) (b0 : Nat) (b1 : Int32) (b2 : Int32) (b3 : Int32) (h : mH) (r : Int32) (h' : mH) (hf : f_Q_together_26  n b0 b1 b2 b3 h = some (r, h')), G sc y_Q_together prog_1_method_24_code 5 (some .int) 3 68 26 [(0, .ref b0), (1, .int b1), (2, .int b2), (3, .int b3)] [] h (some (.int r)) h'
  | 0, _, _, _, _, _, _, _, hf => by cases hf
  | n + 1, _, _, _, _, _, _, _, hf => t_Q_together_26b  (f_Q_together_26  n) (t_Q_together_26  n) _ _ _ _ _ _ _ hf
def f_Q_together_0  (a0 : Nat) (a1 : Int32) (h : mH) : Option (Int32 × mH) :=
  bd2 (f_Q_isWithin a1 (0 : Int32) (1 : Int32) h) fun x3 h1 =>
  if x3 = 0 then
    some (((-1) : Int32), h1)
  else
    bd1 (gR h1 a0 0 6) fun x4 =>
    bd1 (gR h1 a0 0 1) fun x6 =>
    bd1 (kC h1 x4 2) fun _ =>
    bd1 (f_Planner_load x4 x6 h1) fun h10 =>
    f_Q_together_26  FU a0 a1 (0 : Int32) (0 : Int32) h10
set_option maxRecDepth 20000 in
theorem t_Q_together_0 {sc : Nat × (Nat → Int32)}  (a0 : Nat) (a1 : Int32) (h : mH) (r : Int32) (h' : mH) (hf : f_Q_together_0  a0 a1 h = some (r, h')) : G sc y_Q_together prog_1_method_24_code 5 (some .int) 3 68 0 [(0, .ref a0), (1, .int a1)] [] h (some (.int r)) h' := by
  unfold f_Q_together_0 at hf
  refine g_iload_n (pc := 0) 1 dd_Q_together_0.1 rfl rfl ?_
  refine g_iconst (pc := 1) (0 : Int32) dd_Q_together_0.2.1 (by decide) ?_
  refine g_iconst (pc := 2) (1 : Int32) dd_Q_together_0.2.2.1 (by decide) ?_
  obtain ⟨x3, h1, e2, hf⟩ := bd2_e hf
  refine g_callS (pc := 3) [.int a1, .int (0 : Int32), .int (1 : Int32)] (site_of si_Q_isWithin (by decide) (by decide)) wd_331 wd_332 dd_Q_together_0.2.2.2.1 (Nat.le_of_ble_eq_true rfl) (fun z => absurd z si_na_Q_isWithin) (fun z => absurd z si_na_Q_isWithin) (fun z => absurd z si_na_Q_isWithin) (c_Q_isWithin e2) rfl ?_
  refine g_st [.int x3] rfl ?_
  refine g_ifne (pc := 6) 11 dd_Q_together_0.2.2.2.2.1 (by decide) (fun c12 => ?_) (fun c12 => ?_)
  · replace hf := (if_neg c12).symm.trans hf
    refine g_aload_n (pc := 11) 0 dd_Q_together_0.2.2.2.2.2.2.2.1 rfl rfl ?_
    obtain ⟨x4, e5, hf⟩ := bd1_e hf
    refine g_get (pc := 12) (ci := 0) (kk := 6) dd_Q_together_0.2.2.2.2.2.2.2.2.1 rfl in_Q (by decide) wd_302 (gR_spec e5) ?_
    refine g_aload_n (pc := 15) 0 dd_Q_together_0.2.2.2.2.2.2.2.2.2.1 rfl rfl ?_
    obtain ⟨x6, e7, hf⟩ := bd1_e hf
    refine g_get (pc := 16) (ci := 0) (kk := 1) dd_Q_together_0.2.2.2.2.2.2.2.2.2.2.1 rfl in_Q (by decide) wd_297 (gR_spec e7) ?_
    obtain ⟨u9, e8, hf⟩ := bd1_e hf
    obtain ⟨h10, e11, hf⟩ := bd1_e hf
    refine g_callV (pc := 19) (ci := 2) [.ref x6] (site_of si_Planner_load (by decide) (by decide)) wd_661 wd_662 wd_663 dd_Q_together_0.2.2.2.2.2.2.2.2.2.2.2.1 rfl e8 (Nat.le_of_ble_eq_true rfl) (fun z => absurd z si_na_Planner_load) (fun z => absurd z si_na_Planner_load) (fun z => absurd z si_na_Planner_load) (c_Planner_load e11) rfl ?_
    refine g_st [] rfl ?_
    refine g_iconst (pc := 22) (0 : Int32) dd_Q_together_0.2.2.2.2.2.2.2.2.2.2.2.2.1 (by decide) ?_
    refine g_istore_n (pc := 23) [(2, .int (0 : Int32)), (0, .ref a0), (1, .int a1)] dd_Q_together_0.2.2.2.2.2.2.2.2.2.2.2.2.2.1 rfl (Nat.le_of_ble_eq_true rfl) rfl ?_
    refine g_iconst (pc := 24) (0 : Int32) dd_Q_together_0.2.2.2.2.2.2.2.2.2.2.2.2.2.2.1 (by decide) ?_
    refine g_istore_n (pc := 25) [(3, .int (0 : Int32)), (2, .int (0 : Int32)), (0, .ref a0), (1, .int a1)] dd_Q_together_0.2.2.2.2.2.2.2.2.2.2.2.2.2.2.2.1 rfl (Nat.le_of_ble_eq_true rfl) rfl ?_
    refine g_lv [2, 3, 1, 0] rfl ?_
    exact t_Q_together_26  FU _ _ _ _ _ _ _  hf
  · replace hf := (if_pos c12).symm.trans hf
    refine g_iconst (pc := 9) ((-1) : Int32) dd_Q_together_0.2.2.2.2.2.1 (by decide) ?_
    obtain ⟨rfl, rfl⟩ := ret2 hf
    exact g_iret (pc := 10) rfl dd_Q_together_0.2.2.2.2.2.2.1
def f_Q_together (a0 : Nat) (a1 : Int32) (h : mH) : Option (Int32 × mH) := f_Q_together_0 a0 a1 h
theorem c_Q_together {sc : Nat × (Nat → Int32)} {a0 : Nat} {a1 : Int32} {h : mH} {r : Int32} {h' : mH} (hf : f_Q_together a0 a1 h = some (r, h')) : MM sc y_Q_together prog_1_method_24_code 5 (some .int) 3 68 [.ref a0, .int a1] h (some (.int r)) h' :=
  mm_of_G si_pn_Q (Nat.le_of_ble_eq_true rfl) (t_Q_together_0 _ _ _ _ _ hf)
/-! Realm ableWithout (II)I -/
set_option maxRecDepth 100000 in
theorem dd_Realm_ableWithout_0 : (decode prog_5_method_17_code 0 = .ok (.iconst 0, 1)) ∧ (decode prog_5_method_17_code 1 = .ok (.istore_n 3, 1)) ∧ (decode prog_5_method_17_code 2 = .ok (.iconst 0, 1)) ∧ (decode prog_5_method_17_code 3 = .ok (.istore 4, 2)) ∧ (decode prog_5_method_17_code 5 = .ok (.iload 4, 2)) ∧ (decode prog_5_method_17_code 7 = .ok (.aload_n 0, 1)) ∧ (decode prog_5_method_17_code 8 = .ok (.getfield 59, 3)) ∧ (decode prog_5_method_17_code 11 = .ok (.if_icmp .ge 32, 3)) ∧ (decode prog_5_method_17_code 14 = .ok (.iload_n 3, 1)) ∧ (decode prog_5_method_17_code 15 = .ok (.iload_n 1, 1)) ∧ (decode prog_5_method_17_code 16 = .ok (.iload 4, 2)) ∧ (decode prog_5_method_17_code 18 = .ok (.invokestatic 104, 3)) ∧ (decode prog_5_method_17_code 21 = .ok (.ifCond .eq 7, 3)) ∧ (decode prog_5_method_17_code 24 = .ok (.iconst 0, 1)) ∧ (decode prog_5_method_17_code 25 = .ok (.goto 10, 3)) ∧ (decode prog_5_method_17_code 28 = .ok (.aload_n 0, 1)) ∧ (decode prog_5_method_17_code 29 = .ok (.iload 4, 2)) ∧ (decode prog_5_method_17_code 31 = .ok (.iload_n 2, 1)) ∧ (decode prog_5_method_17_code 32 = .ok (.invokevirtual 129, 3)) ∧ (decode prog_5_method_17_code 35 = .ok (.iadd, 1)) ∧ (decode prog_5_method_17_code 36 = .ok (.istore_n 3, 1)) ∧ (decode prog_5_method_17_code 37 = .ok (.iinc 4 1, 3)) ∧ (decode prog_5_method_17_code 40 = .ok (.goto (-35), 3)) ∧ (decode prog_5_method_17_code 43 = .ok (.iload_n 3, 1)) := by
  have h : List.drop 0 prog_5_method_17_code.data.toList = 0x03 :: _ := rfl
  refine ⟨zq_k_n 3 h rfl (zq_o_3 _), ?_⟩
  replace h := zq_nx1 (q := 1) h rfl
  refine ⟨zq_k_n 62 h rfl (zq_o_62 _), ?_⟩
  replace h := zq_nx1 (q := 2) h rfl
  refine ⟨zq_k_n 3 h rfl (zq_o_3 _), ?_⟩
  replace h := zq_nx1 (q := 3) h rfl
  refine ⟨zq_k_u1 54 (fun z => .istore z) 4 h rfl (zq_o_54 _) (by decide +kernel), ?_⟩
  replace h := zq_nx2 (q := 5) h rfl
  refine ⟨zq_k_u1 21 (fun z => .iload z) 4 h rfl (zq_o_21 _) (by decide +kernel), ?_⟩
  replace h := zq_nx2 (q := 7) h rfl
  refine ⟨zq_k_n 42 h rfl (zq_o_42 _), ?_⟩
  replace h := zq_nx1 (q := 8) h rfl
  refine ⟨zq_k_u2 180 (fun z => .getfield z) 59 h rfl (zq_o_180 _) (by decide +kernel), ?_⟩
  replace h := zq_nx3 (q := 11) h rfl
  refine ⟨zq_k_s2 162 (fun z => .if_icmp .ge z) 32 h rfl (zq_o_162 _) (by decide +kernel), ?_⟩
  replace h := zq_nx3 (q := 14) h rfl
  refine ⟨zq_k_n 29 h rfl (zq_o_29 _), ?_⟩
  replace h := zq_nx1 (q := 15) h rfl
  refine ⟨zq_k_n 27 h rfl (zq_o_27 _), ?_⟩
  replace h := zq_nx1 (q := 16) h rfl
  refine ⟨zq_k_u1 21 (fun z => .iload z) 4 h rfl (zq_o_21 _) (by decide +kernel), ?_⟩
  replace h := zq_nx2 (q := 18) h rfl
  refine ⟨zq_k_u2 184 (fun z => .invokestatic z) 104 h rfl (zq_o_184 _) (by decide +kernel), ?_⟩
  replace h := zq_nx3 (q := 21) h rfl
  refine ⟨zq_k_s2 153 (fun z => .ifCond .eq z) 7 h rfl (zq_o_153 _) (by decide +kernel), ?_⟩
  replace h := zq_nx3 (q := 24) h rfl
  refine ⟨zq_k_n 3 h rfl (zq_o_3 _), ?_⟩
  replace h := zq_nx1 (q := 25) h rfl
  refine ⟨zq_k_s2 167 (fun z => .goto z) 10 h rfl (zq_o_167 _) (by decide +kernel), ?_⟩
  replace h := zq_nx3 (q := 28) h rfl
  refine ⟨zq_k_n 42 h rfl (zq_o_42 _), ?_⟩
  replace h := zq_nx1 (q := 29) h rfl
  refine ⟨zq_k_u1 21 (fun z => .iload z) 4 h rfl (zq_o_21 _) (by decide +kernel), ?_⟩
  replace h := zq_nx2 (q := 31) h rfl
  refine ⟨zq_k_n 28 h rfl (zq_o_28 _), ?_⟩
  replace h := zq_nx1 (q := 32) h rfl
  refine ⟨zq_k_u2 182 (fun z => .invokevirtual z) 129 h rfl (zq_o_182 _) (by decide +kernel), ?_⟩
  replace h := zq_nx3 (q := 35) h rfl
  refine ⟨zq_k_n 96 h rfl (zq_o_96 _), ?_⟩
  replace h := zq_nx1 (q := 36) h rfl
  refine ⟨zq_k_n 62 h rfl (zq_o_62 _), ?_⟩
  replace h := zq_nx1 (q := 37) h rfl
  refine ⟨zq_k_iinc 4 1 h rfl (zq_o_132 _) (by decide +kernel) (by decide +kernel), ?_⟩
  replace h := zq_nx3 (q := 40) h rfl
  refine ⟨zq_k_s2 167 (fun z => .goto z) (-35) h rfl (zq_o_167 _) (by decide +kernel), ?_⟩
  replace h := zq_nx3 (q := 43) h rfl
  exact zq_k_n 29 h rfl (zq_o_29 _)
set_option maxRecDepth 100000 in
theorem dd_Realm_ableWithout_44 : decode prog_5_method_17_code 44 = .ok (.ireturn, 1) := by
  have h : List.drop 44 prog_5_method_17_code.data.toList = 0xac :: _ := rfl
  exact zq_k_n 172 h rfl (zq_o_172 _)
def f_Realm_ableWithout_35 (rec5 : Nat → Int32 → Int32 → Int32 → Int32 → mH → Option (Int32 × mH)) (b0 : Nat) (b1 : Int32) (b2 : Int32) (b4 : Int32) (s0 : Int32) (s1 : Int32) (h : mH) : Option (Int32 × mH) :=
  rec5 b0 b1 b2 (s0 + s1) (b4 + (1 : Int32)) h
set_option maxRecDepth 20000 in
theorem t_Realm_ableWithout_35 {sc : Nat × (Nat → Int32)} (rec5 : Nat → Int32 → Int32 → Int32 → Int32 → mH → Option (Int32 × mH)) (hrec5 : ∀ (b0 : Nat) (b1 : Int32) (b2 : Int32) (b3 : Int32) (b4 : Int32) (h : mH) (r : Int32) (h' : mH), rec5 b0 b1 b2 b3 b4 h = some (r, h') → G sc y_Realm_ableWithout prog_5_method_17_code 5 (some .int) 3 67 5 [(0, .ref b0), (1, .int b1), (2, .int b2), (3, .int b3), (4, .int b4)] [] h (some (.int r)) h') (b0 : Nat) (b1 : Int32) (b2 : Int32) (b4 : Int32) (s0 : Int32) (s1 : Int32) (h : mH) (r : Int32) (h' : mH) (hf : f_Realm_ableWithout_35 rec5 b0 b1 b2 b4 s0 s1 h = some (r, h')) : G sc y_Realm_ableWithout prog_5_method_17_code 5 (some .int) 3 67 35 [(0, .ref b0), (1, .int b1), (2, .int b2), (4, .int b4)] [.int s1, .int s0] h (some (.int r)) h' := by
  unfold f_Realm_ableWithout_35 at hf
  refine g_iadd (pc := 35) dd_Realm_ableWithout_0.2.2.2.2.2.2.2.2.2.2.2.2.2.2.2.2.2.2.2.1 ?_
  refine g_istore_n (pc := 36) [(3, .int (s0 + s1)), (0, .ref b0), (1, .int b1), (2, .int b2), (4, .int b4)] dd_Realm_ableWithout_0.2.2.2.2.2.2.2.2.2.2.2.2.2.2.2.2.2.2.2.2.1 rfl (Nat.le_of_ble_eq_true rfl) rfl ?_
  refine g_iinc (pc := 37) 4 (b4 + (1 : Int32)) [(4, .int (b4 + (1 : Int32))), (3, .int (s0 + s1)), (0, .ref b0), (1, .int b1), (2, .int b2)] dd_Realm_ableWithout_0.2.2.2.2.2.2.2.2.2.2.2.2.2.2.2.2.2.2.2.2.2.1 rfl rfl (Nat.le_of_ble_eq_true rfl) rfl ?_
  refine g_goto (pc := 40) 5 dd_Realm_ableWithout_0.2.2.2.2.2.2.2.2.2.2.2.2.2.2.2.2.2.2.2.2.2.2.1 (by decide) ?_
  refine g_lv [2, 3, 4, 1, 0] rfl ?_
  exact hrec5 _ _ _ _ _ _ _ _  hf
def f_Realm_ableWithout_5b (rec5 : Nat → Int32 → Int32 → Int32 → Int32 → mH → Option (Int32 × mH)) (b0 : Nat) (b1 : Int32) (b2 : Int32) (b3 : Int32) (b4 : Int32) (h : mH) : Option (Int32 × mH) :=
  bd1 (gI h b0 4 1) fun x1 =>
  if x1 ≤ b4 then
    some (b3, h)
  else
    bd2 (f_Q_hasBit b1 b4 h) fun x5 h3 =>
    if x5 = 0 then
      bd1 (kC h3 b0 4) fun _ =>
      bd2 (f_Realm_ableAlone b0 b4 b2 h3) fun x10 h8 =>
      f_Realm_ableWithout_35 rec5 b0 b1 b2 b4 b3 x10 h8
    else
      f_Realm_ableWithout_35 rec5 b0 b1 b2 b4 b3 (0 : Int32) h3
set_option maxRecDepth 20000 in
theorem t_Realm_ableWithout_5b {sc : Nat × (Nat → Int32)} (rec5 : Nat → Int32 → Int32 → Int32 → Int32 → mH → Option (Int32 × mH)) (hrec5 : ∀ (b0 : Nat) (b1 : Int32) (b2 : Int32) (b3 : Int32) (b4 : Int32) (h : mH) (r : Int32) (h' : mH), rec5 b0 b1 b2 b3 b4 h = some (r, h') → G sc y_Realm_ableWithout prog_5_method_17_code 5 (some .int) 3 67 5 [(0, .ref b0), (1, .int b1), (2, .int b2), (3, .int b3), (4, .int b4)] [] h (some (.int r)) h') (b0 : Nat) (b1 : Int32) (b2 : Int32) (b3 : Int32) (b4 : Int32) (h : mH) (r : Int32) (h' : mH) (hf : f_Realm_ableWithout_5b rec5 b0 b1 b2 b3 b4 h = some (r, h')) : G sc y_Realm_ableWithout prog_5_method_17_code 5 (some .int) 3 67 5 [(0, .ref b0), (1, .int b1), (2, .int b2), (3, .int b3), (4, .int b4)] [] h (some (.int r)) h' := by
  unfold f_Realm_ableWithout_5b at hf
  refine g_iload (pc := 5) 4 dd_Realm_ableWithout_0.2.2.2.2.1 rfl ?_
  refine g_aload_n (pc := 7) 0 dd_Realm_ableWithout_0.2.2.2.2.2.1 rfl rfl ?_
  obtain ⟨x1, e2, hf⟩ := bd1_e hf
  refine g_get (pc := 8) (ci := 4) (kk := 1) dd_Realm_ableWithout_0.2.2.2.2.2.2.1 rfl in_Realm (by decide) wd_98 (gI_spec e2) ?_
  refine g_icmpge (pc := 11) 43 dd_Realm_ableWithout_0.2.2.2.2.2.2.2.1 (by decide) (fun c12 => ?_) (fun c12 => ?_)
  · replace hf := (if_pos c12).symm.trans hf
    refine g_iload_n (pc := 43) 3 dd_Realm_ableWithout_0.2.2.2.2.2.2.2.2.2.2.2.2.2.2.2.2.2.2.2.2.2.2.2 rfl rfl ?_
    obtain ⟨rfl, rfl⟩ := ret2 hf
    exact g_iret (pc := 44) rfl dd_Realm_ableWithout_44
  · replace hf := (if_neg c12).symm.trans hf
    refine g_iload_n (pc := 14) 3 dd_Realm_ableWithout_0.2.2.2.2.2.2.2.2.1 rfl rfl ?_
    refine g_iload_n (pc := 15) 1 dd_Realm_ableWithout_0.2.2.2.2.2.2.2.2.2.1 rfl rfl ?_
    refine g_iload (pc := 16) 4 dd_Realm_ableWithout_0.2.2.2.2.2.2.2.2.2.2.1 rfl ?_
    obtain ⟨x5, h3, e4, hf⟩ := bd2_e hf
    refine g_callSN (pc := 18) "QuotaLaws" [.int b1, .int b4] (site_of si_Q_hasBit (by decide) (by decide)) wd_524 wd_469 dd_Realm_ableWithout_0.2.2.2.2.2.2.2.2.2.2.2.1 (Nat.le_of_ble_eq_true rfl) (fun z => absurd z si_na_Q_hasBit) (fun z => absurd z si_na_Q_hasBit) (fun z => absurd z si_na_Q_hasBit) (c_Q_hasBit e4) rfl ?_
    refine g_st [.int x5, .int b3] rfl ?_
    refine g_ifeq (pc := 21) 28 dd_Realm_ableWithout_0.2.2.2.2.2.2.2.2.2.2.2.2.1 (by decide) (fun c11 => ?_) (fun c11 => ?_)
    · replace hf := (if_pos c11).symm.trans hf
      refine g_aload_n (pc := 28) 0 dd_Realm_ableWithout_0.2.2.2.2.2.2.2.2.2.2.2.2.2.2.2.1 rfl rfl ?_
      refine g_iload (pc := 29) 4 dd_Realm_ableWithout_0.2.2.2.2.2.2.2.2.2.2.2.2.2.2.2.2.1 rfl ?_
      refine g_iload_n (pc := 31) 2 dd_Realm_ableWithout_0.2.2.2.2.2.2.2.2.2.2.2.2.2.2.2.2.2.1 rfl rfl ?_
      obtain ⟨u7, e6, hf⟩ := bd1_e hf
      obtain ⟨x10, h8, e9, hf⟩ := bd2_e hf
      refine g_callV (pc := 32) (ci := 4) [.int b4, .int b2] (site_of si_Realm_ableAlone (by decide) (by decide)) wd_550 wd_551 wd_552 dd_Realm_ableWithout_0.2.2.2.2.2.2.2.2.2.2.2.2.2.2.2.2.2.2.1 rfl e6 (Nat.le_of_ble_eq_true rfl) (fun z => absurd z si_na_Realm_ableAlone) (fun z => absurd z si_na_Realm_ableAlone) (fun z => absurd z si_na_Realm_ableAlone) (c_Realm_ableAlone e9) rfl ?_
      refine g_st [.int x10, .int b3] rfl ?_
      refine g_lv [0, 1, 2, 4] rfl ?_
      exact t_Realm_ableWithout_35 rec5 hrec5 _ _ _ _ _ _ _ _ _  hf
    · replace hf := (if_neg c11).symm.trans hf
      refine g_iconst (pc := 24) (0 : Int32) dd_Realm_ableWithout_0.2.2.2.2.2.2.2.2.2.2.2.2.2.1 (by decide) ?_
      refine g_goto (pc := 25) 35 dd_Realm_ableWithout_0.2.2.2.2.2.2.2.2.2.2.2.2.2.2.1 (by decide) ?_
      refine g_lv [0, 1, 2, 4] rfl ?_
      exact t_Realm_ableWithout_35 rec5 hrec5 _ _ _ _ _ _ _ _ _  hf
def f_Realm_ableWithout_5  : Nat → Nat → Int32 → Int32 → Int32 → Int32 → mH → Option (Int32 × mH)
  | 0 => fun _ _ _ _ _ _ => none
  | n + 1 => f_Realm_ableWithout_5b  (f_Realm_ableWithout_5  n)
theorem t_Realm_ableWithout_5 {sc : Nat × (Nat → Int32)}  : ∀ (n : Nat) (b0 : Nat) (b1 : Int32) (b2 : Int32) (b3 : Int32) (b4 : Int32) (h : mH) (r : Int32) (h' : mH) (hf : f_Realm_ableWithout_5  n b0 b1 b2 b3 b4 h = some (r, h')), G sc y_Realm_ableWithout prog_5_method_17_code 5 (some .int) 3 67 5 [(0, .ref b0), (1, .int b1), (2, .int b2), (3, .int b3), (4, .int b4)] [] h (some (.int r)) h'
  | 0, _, _, _, _, _, _, _, _, hf => by cases hf
  | n + 1, _, _, _, _, _, _, _, _, hf => t_Realm_ableWithout_5b  (f_Realm_ableWithout_5  n) (t_Realm_ableWithout_5  n) _ _ _ _ _ _ _ _ hf
def f_Realm_ableWithout_0  (a0 : Nat) (a1 : Int32) (a2 : Int32) (h : mH) : Option (Int32 × mH) :=
  f_Realm_ableWithout_5  FU a0 a1 a2 (0 : Int32) (0 : Int32) h
set_option maxRecDepth 20000 in
theorem t_Realm_ableWithout_0 {sc : Nat × (Nat → Int32)}  (a0 : Nat) (a1 : Int32) (a2 : Int32) (h : mH) (r : Int32) (h' : mH) (hf : f_Realm_ableWithout_0  a0 a1 a2 h = some (r, h')) : G sc y_Realm_ableWithout prog_5_method_17_code 5 (some .int) 3 67 0 [(0, .ref a0), (1, .int a1), (2, .int a2)] [] h (some (.int r)) h' := by
  unfold f_Realm_ableWithout_0 at hf
  refine g_iconst (pc := 0) (0 : Int32) dd_Realm_ableWithout_0.1 (by decide) ?_
  refine g_istore_n (pc := 1) [(3, .int (0 : Int32)), (0, .ref a0), (1, .int a1), (2, .int a2)] dd_Realm_ableWithout_0.2.1 rfl (Nat.le_of_ble_eq_true rfl) rfl ?_
  refine g_iconst (pc := 2) (0 : Int32) dd_Realm_ableWithout_0.2.2.1 (by decide) ?_
  refine g_istore (pc := 3) [(4, .int (0 : Int32)), (3, .int (0 : Int32)), (0, .ref a0), (1, .int a1), (2, .int a2)] dd_Realm_ableWithout_0.2.2.2.1 (Nat.le_of_ble_eq_true rfl) rfl ?_
  refine g_lv [2, 3, 4, 1, 0] rfl ?_
  exact t_Realm_ableWithout_5  FU _ _ _ _ _ _ _ _  hf
def f_Realm_ableWithout (a0 : Nat) (a1 : Int32) (a2 : Int32) (h : mH) : Option (Int32 × mH) := f_Realm_ableWithout_0 a0 a1 a2 h
theorem c_Realm_ableWithout {sc : Nat × (Nat → Int32)} {a0 : Nat} {a1 : Int32} {a2 : Int32} {h : mH} {r : Int32} {h' : mH} (hf : f_Realm_ableWithout a0 a1 a2 h = some (r, h')) : MM sc y_Realm_ableWithout prog_5_method_17_code 5 (some .int) 3 67 [.ref a0, .int a1, .int a2] h (some (.int r)) h' :=
  mm_of_G si_pn_Realm (Nat.le_of_ble_eq_true rfl) (t_Realm_ableWithout_0 _ _ _ _ _ _ hf)
/-! Q kill (II)I -/
set_option maxRecDepth 100000 in
theorem dd_Q_kill_0 : (decode prog_1_method_25_code 0 = .ok (.aload_n 0, 1)) ∧ (decode prog_1_method_25_code 1 = .ok (.getfield 19, 3)) ∧ (decode prog_1_method_25_code 4 = .ok (.iload_n 1, 1)) ∧ (decode prog_1_method_25_code 5 = .ok (.invokevirtual 109, 3)) ∧ (decode prog_1_method_25_code 8 = .ok (.ifCond .eq 12, 3)) ∧ (decode prog_1_method_25_code 11 = .ok (.iload_n 2, 1)) ∧ (decode prog_1_method_25_code 12 = .ok (.iconst 0, 1)) ∧ (decode prog_1_method_25_code 13 = .ok (.iconst 1, 1)) ∧ (decode prog_1_method_25_code 14 = .ok (.invokestatic 62, 3)) ∧ (decode prog_1_method_25_code 17 = .ok (.ifCond .ne 5, 3)) ∧ (decode prog_1_method_25_code 20 = .ok (.iconst (-1), 1)) ∧ (decode prog_1_method_25_code 21 = .ok (.ireturn, 1)) ∧ (decode prog_1_method_25_code 22 = .ok (.aload_n 0, 1)) ∧ (decode prog_1_method_25_code 23 = .ok (.getfield 19, 3)) ∧ (decode prog_1_method_25_code 26 = .ok (.getfield 103, 3)) ∧ (decode prog_1_method_25_code 29 = .ok (.iload_n 1, 1)) ∧ (decode prog_1_method_25_code 30 = .ok (.invokestatic 177, 3)) ∧ (decode prog_1_method_25_code 33 = .ok (.ifCond .ne 6, 3)) ∧ (decode prog_1_method_25_code 36 = .ok (.bipush (-2), 2)) ∧ (decode prog_1_method_25_code 38 = .ok (.ireturn, 1)) ∧ (decode prog_1_method_25_code 39 = .ok (.bipush (-4), 2)) ∧ (decode prog_1_method_25_code 41 = .ok (.istore_n 3, 1)) ∧ (decode prog_1_method_25_code 42 = .ok (.iconst 0, 1)) ∧ (decode prog_1_method_25_code 43 = .ok (.istore 4, 2)) := by
  have h : List.drop 0 prog_1_method_25_code.data.toList = 0x2a :: _ := rfl
  refine ⟨zq_k_n 42 h rfl (zq_o_42 _), ?_⟩
  replace h := zq_nx1 (q := 1) h rfl
  refine ⟨zq_k_u2 180 (fun z => .getfield z) 19 h rfl (zq_o_180 _) (by decide +kernel), ?_⟩
  replace h := zq_nx3 (q := 4) h rfl
  refine ⟨zq_k_n 27 h rfl (zq_o_27 _), ?_⟩
  replace h := zq_nx1 (q := 5) h rfl
  refine ⟨zq_k_u2 182 (fun z => .invokevirtual z) 109 h rfl (zq_o_182 _) (by decide +kernel), ?_⟩
  replace h := zq_nx3 (q := 8) h rfl
  refine ⟨zq_k_s2 153 (fun z => .ifCond .eq z) 12 h rfl (zq_o_153 _) (by decide +kernel), ?_⟩
  replace h := zq_nx3 (q := 11) h rfl
  refine ⟨zq_k_n 28 h rfl (zq_o_28 _), ?_⟩
  replace h := zq_nx1 (q := 12) h rfl
  refine ⟨zq_k_n 3 h rfl (zq_o_3 _), ?_⟩
  replace h := zq_nx1 (q := 13) h rfl
  refine ⟨zq_k_n 4 h rfl (zq_o_4 _), ?_⟩
  replace h := zq_nx1 (q := 14) h rfl
  refine ⟨zq_k_u2 184 (fun z => .invokestatic z) 62 h rfl (zq_o_184 _) (by decide +kernel), ?_⟩
  replace h := zq_nx3 (q := 17) h rfl
  refine ⟨zq_k_s2 154 (fun z => .ifCond .ne z) 5 h rfl (zq_o_154 _) (by decide +kernel), ?_⟩
  replace h := zq_nx3 (q := 20) h rfl
  refine ⟨zq_k_n 2 h rfl (zq_o_2 _), ?_⟩
  replace h := zq_nx1 (q := 21) h rfl
  refine ⟨zq_k_n 172 h rfl (zq_o_172 _), ?_⟩
  replace h := zq_nx1 (q := 22) h rfl
  refine ⟨zq_k_n 42 h rfl (zq_o_42 _), ?_⟩
  replace h := zq_nx1 (q := 23) h rfl
  refine ⟨zq_k_u2 180 (fun z => .getfield z) 19 h rfl (zq_o_180 _) (by decide +kernel), ?_⟩
  replace h := zq_nx3 (q := 26) h rfl
  refine ⟨zq_k_u2 180 (fun z => .getfield z) 103 h rfl (zq_o_180 _) (by decide +kernel), ?_⟩
  replace h := zq_nx3 (q := 29) h rfl
  refine ⟨zq_k_n 27 h rfl (zq_o_27 _), ?_⟩
  replace h := zq_nx1 (q := 30) h rfl
  refine ⟨zq_k_u2 184 (fun z => .invokestatic z) 177 h rfl (zq_o_184 _) (by decide +kernel), ?_⟩
  replace h := zq_nx3 (q := 33) h rfl
  refine ⟨zq_k_s2 154 (fun z => .ifCond .ne z) 6 h rfl (zq_o_154 _) (by decide +kernel), ?_⟩
  replace h := zq_nx3 (q := 36) h rfl
  refine ⟨zq_k_s1 16 (fun z => .bipush z) (-2) h rfl (zq_o_16 _) (by decide +kernel), ?_⟩
  replace h := zq_nx2 (q := 38) h rfl
  refine ⟨zq_k_n 172 h rfl (zq_o_172 _), ?_⟩
  replace h := zq_nx1 (q := 39) h rfl
  refine ⟨zq_k_s1 16 (fun z => .bipush z) (-4) h rfl (zq_o_16 _) (by decide +kernel), ?_⟩
  replace h := zq_nx2 (q := 41) h rfl
  refine ⟨zq_k_n 62 h rfl (zq_o_62 _), ?_⟩
  replace h := zq_nx1 (q := 42) h rfl
  refine ⟨zq_k_n 3 h rfl (zq_o_3 _), ?_⟩
  replace h := zq_nx1 (q := 43) h rfl
  exact zq_k_u1 54 (fun z => .istore z) 4 h rfl (zq_o_54 _) (by decide +kernel)
set_option maxRecDepth 100000 in
theorem dd_Q_kill_45 : (decode prog_1_method_25_code 45 = .ok (.iload 4, 2)) ∧ (decode prog_1_method_25_code 47 = .ok (.iconst 1, 1)) ∧ (decode prog_1_method_25_code 48 = .ok (.aload_n 0, 1)) ∧ (decode prog_1_method_25_code 49 = .ok (.getfield 19, 3)) ∧ (decode prog_1_method_25_code 52 = .ok (.getfield 94, 3)) ∧ (decode prog_1_method_25_code 55 = .ok (.ishl, 1)) ∧ (decode prog_1_method_25_code 56 = .ok (.if_icmp .ge 63, 3)) ∧ (decode prog_1_method_25_code 59 = .ok (.iload_n 3, 1)) ∧ (decode prog_1_method_25_code 60 = .ok (.bipush (-4), 2)) ∧ (decode prog_1_method_25_code 62 = .ok (.if_icmp .eq 15, 3)) ∧ (decode prog_1_method_25_code 65 = .ok (.iload 4, 2)) ∧ (decode prog_1_method_25_code 67 = .ok (.invokestatic 180, 3)) ∧ (decode prog_1_method_25_code 70 = .ok (.iload_n 3, 1)) ∧ (decode prog_1_method_25_code 71 = .ok (.invokestatic 180, 3)) ∧ (decode prog_1_method_25_code 74 = .ok (.if_icmp .ge 7, 3)) ∧ (decode prog_1_method_25_code 77 = .ok (.iconst 1, 1)) ∧ (decode prog_1_method_25_code 78 = .ok (.goto 4, 3)) ∧ (decode prog_1_method_25_code 81 = .ok (.iconst 0, 1)) ∧ (decode prog_1_method_25_code 82 = .ok (.istore 5, 2)) ∧ (decode prog_1_method_25_code 84 = .ok (.iload 5, 2)) ∧ (decode prog_1_method_25_code 86 = .ok (.ifCond .eq 27, 3)) ∧ (decode prog_1_method_25_code 89 = .ok (.aload_n 0, 1)) ∧ (decode prog_1_method_25_code 90 = .ok (.getfield 19, 3)) ∧ (decode prog_1_method_25_code 93 = .ok (.iload 4, 2)) := by
  have h : List.drop 45 prog_1_method_25_code.data.toList = 0x15 :: _ := rfl
  refine ⟨zq_k_u1 21 (fun z => .iload z) 4 h rfl (zq_o_21 _) (by decide +kernel), ?_⟩
  replace h := zq_nx2 (q := 47) h rfl
  refine ⟨zq_k_n 4 h rfl (zq_o_4 _), ?_⟩
  replace h := zq_nx1 (q := 48) h rfl
  refine ⟨zq_k_n 42 h rfl (zq_o_42 _), ?_⟩
  replace h := zq_nx1 (q := 49) h rfl
  refine ⟨zq_k_u2 180 (fun z => .getfield z) 19 h rfl (zq_o_180 _) (by decide +kernel), ?_⟩
  replace h := zq_nx3 (q := 52) h rfl
  refine ⟨zq_k_u2 180 (fun z => .getfield z) 94 h rfl (zq_o_180 _) (by decide +kernel), ?_⟩
  replace h := zq_nx3 (q := 55) h rfl
  refine ⟨zq_k_n 120 h rfl (zq_o_120 _), ?_⟩
  replace h := zq_nx1 (q := 56) h rfl
  refine ⟨zq_k_s2 162 (fun z => .if_icmp .ge z) 63 h rfl (zq_o_162 _) (by decide +kernel), ?_⟩
  replace h := zq_nx3 (q := 59) h rfl
  refine ⟨zq_k_n 29 h rfl (zq_o_29 _), ?_⟩
  replace h := zq_nx1 (q := 60) h rfl
  refine ⟨zq_k_s1 16 (fun z => .bipush z) (-4) h rfl (zq_o_16 _) (by decide +kernel), ?_⟩
  replace h := zq_nx2 (q := 62) h rfl
  refine ⟨zq_k_s2 159 (fun z => .if_icmp .eq z) 15 h rfl (zq_o_159 _) (by decide +kernel), ?_⟩
  replace h := zq_nx3 (q := 65) h rfl
  refine ⟨zq_k_u1 21 (fun z => .iload z) 4 h rfl (zq_o_21 _) (by decide +kernel), ?_⟩
  replace h := zq_nx2 (q := 67) h rfl
  refine ⟨zq_k_u2 184 (fun z => .invokestatic z) 180 h rfl (zq_o_184 _) (by decide +kernel), ?_⟩
  replace h := zq_nx3 (q := 70) h rfl
  refine ⟨zq_k_n 29 h rfl (zq_o_29 _), ?_⟩
  replace h := zq_nx1 (q := 71) h rfl
  refine ⟨zq_k_u2 184 (fun z => .invokestatic z) 180 h rfl (zq_o_184 _) (by decide +kernel), ?_⟩
  replace h := zq_nx3 (q := 74) h rfl
  refine ⟨zq_k_s2 162 (fun z => .if_icmp .ge z) 7 h rfl (zq_o_162 _) (by decide +kernel), ?_⟩
  replace h := zq_nx3 (q := 77) h rfl
  refine ⟨zq_k_n 4 h rfl (zq_o_4 _), ?_⟩
  replace h := zq_nx1 (q := 78) h rfl
  refine ⟨zq_k_s2 167 (fun z => .goto z) 4 h rfl (zq_o_167 _) (by decide +kernel), ?_⟩
  replace h := zq_nx3 (q := 81) h rfl
  refine ⟨zq_k_n 3 h rfl (zq_o_3 _), ?_⟩
  replace h := zq_nx1 (q := 82) h rfl
  refine ⟨zq_k_u1 54 (fun z => .istore z) 5 h rfl (zq_o_54 _) (by decide +kernel), ?_⟩
  replace h := zq_nx2 (q := 84) h rfl
  refine ⟨zq_k_u1 21 (fun z => .iload z) 5 h rfl (zq_o_21 _) (by decide +kernel), ?_⟩
  replace h := zq_nx2 (q := 86) h rfl
  refine ⟨zq_k_s2 153 (fun z => .ifCond .eq z) 27 h rfl (zq_o_153 _) (by decide +kernel), ?_⟩
  replace h := zq_nx3 (q := 89) h rfl
  refine ⟨zq_k_n 42 h rfl (zq_o_42 _), ?_⟩
  replace h := zq_nx1 (q := 90) h rfl
  refine ⟨zq_k_u2 180 (fun z => .getfield z) 19 h rfl (zq_o_180 _) (by decide +kernel), ?_⟩
  replace h := zq_nx3 (q := 93) h rfl
  exact zq_k_u1 21 (fun z => .iload z) 4 h rfl (zq_o_21 _) (by decide +kernel)
set_option maxRecDepth 100000 in
theorem dd_Q_kill_95 : (decode prog_1_method_25_code 95 = .ok (.iload_n 1, 1)) ∧ (decode prog_1_method_25_code 96 = .ok (.invokevirtual 214, 3)) ∧ (decode prog_1_method_25_code 99 = .ok (.aload_n 0, 1)) ∧ (decode prog_1_method_25_code 100 = .ok (.getfield 19, 3)) ∧ (decode prog_1_method_25_code 103 = .ok (.iload_n 1, 1)) ∧ (decode prog_1_method_25_code 104 = .ok (.invokevirtual 128, 3)) ∧ (decode prog_1_method_25_code 107 = .ok (.if_icmp .ge 6, 3)) ∧ (decode prog_1_method_25_code 110 = .ok (.iload 4, 2)) ∧ (decode prog_1_method_25_code 112 = .ok (.istore_n 3, 1)) ∧ (decode prog_1_method_25_code 113 = .ok (.iinc 4 1, 3)) ∧ (decode prog_1_method_25_code 116 = .ok (.goto (-71), 3)) ∧ (decode prog_1_method_25_code 119 = .ok (.iload_n 2, 1)) ∧ (decode prog_1_method_25_code 120 = .ok (.ifCond .ne 16, 3)) ∧ (decode prog_1_method_25_code 123 = .ok (.iload_n 3, 1)) ∧ (decode prog_1_method_25_code 124 = .ok (.bipush (-4), 2)) ∧ (decode prog_1_method_25_code 126 = .ok (.if_icmp .eq 10, 3)) ∧ (decode prog_1_method_25_code 129 = .ok (.iload_n 3, 1)) ∧ (decode prog_1_method_25_code 130 = .ok (.invokestatic 180, 3)) ∧ (decode prog_1_method_25_code 133 = .ok (.goto 4, 3)) ∧ (decode prog_1_method_25_code 136 = .ok (.iload_n 3, 1)) ∧ (decode prog_1_method_25_code 137 = .ok (.ireturn, 1)) := by
  have h : List.drop 95 prog_1_method_25_code.data.toList = 0x1b :: _ := rfl
  refine ⟨zq_k_n 27 h rfl (zq_o_27 _), ?_⟩
  replace h := zq_nx1 (q := 96) h rfl
  refine ⟨zq_k_u2 182 (fun z => .invokevirtual z) 214 h rfl (zq_o_182 _) (by decide +kernel), ?_⟩
  replace h := zq_nx3 (q := 99) h rfl
  refine ⟨zq_k_n 42 h rfl (zq_o_42 _), ?_⟩
  replace h := zq_nx1 (q := 100) h rfl
  refine ⟨zq_k_u2 180 (fun z => .getfield z) 19 h rfl (zq_o_180 _) (by decide +kernel), ?_⟩
  replace h := zq_nx3 (q := 103) h rfl
  refine ⟨zq_k_n 27 h rfl (zq_o_27 _), ?_⟩
  replace h := zq_nx1 (q := 104) h rfl
  refine ⟨zq_k_u2 182 (fun z => .invokevirtual z) 128 h rfl (zq_o_182 _) (by decide +kernel), ?_⟩
  replace h := zq_nx3 (q := 107) h rfl
  refine ⟨zq_k_s2 162 (fun z => .if_icmp .ge z) 6 h rfl (zq_o_162 _) (by decide +kernel), ?_⟩
  replace h := zq_nx3 (q := 110) h rfl
  refine ⟨zq_k_u1 21 (fun z => .iload z) 4 h rfl (zq_o_21 _) (by decide +kernel), ?_⟩
  replace h := zq_nx2 (q := 112) h rfl
  refine ⟨zq_k_n 62 h rfl (zq_o_62 _), ?_⟩
  replace h := zq_nx1 (q := 113) h rfl
  refine ⟨zq_k_iinc 4 1 h rfl (zq_o_132 _) (by decide +kernel) (by decide +kernel), ?_⟩
  replace h := zq_nx3 (q := 116) h rfl
  refine ⟨zq_k_s2 167 (fun z => .goto z) (-71) h rfl (zq_o_167 _) (by decide +kernel), ?_⟩
  replace h := zq_nx3 (q := 119) h rfl
  refine ⟨zq_k_n 28 h rfl (zq_o_28 _), ?_⟩
  replace h := zq_nx1 (q := 120) h rfl
  refine ⟨zq_k_s2 154 (fun z => .ifCond .ne z) 16 h rfl (zq_o_154 _) (by decide +kernel), ?_⟩
  replace h := zq_nx3 (q := 123) h rfl
  refine ⟨zq_k_n 29 h rfl (zq_o_29 _), ?_⟩
  replace h := zq_nx1 (q := 124) h rfl
  refine ⟨zq_k_s1 16 (fun z => .bipush z) (-4) h rfl (zq_o_16 _) (by decide +kernel), ?_⟩
  replace h := zq_nx2 (q := 126) h rfl
  refine ⟨zq_k_s2 159 (fun z => .if_icmp .eq z) 10 h rfl (zq_o_159 _) (by decide +kernel), ?_⟩
  replace h := zq_nx3 (q := 129) h rfl
  refine ⟨zq_k_n 29 h rfl (zq_o_29 _), ?_⟩
  replace h := zq_nx1 (q := 130) h rfl
  refine ⟨zq_k_u2 184 (fun z => .invokestatic z) 180 h rfl (zq_o_184 _) (by decide +kernel), ?_⟩
  replace h := zq_nx3 (q := 133) h rfl
  refine ⟨zq_k_s2 167 (fun z => .goto z) 4 h rfl (zq_o_167 _) (by decide +kernel), ?_⟩
  replace h := zq_nx3 (q := 136) h rfl
  refine ⟨zq_k_n 29 h rfl (zq_o_29 _), ?_⟩
  replace h := zq_nx1 (q := 137) h rfl
  exact zq_k_n 172 h rfl (zq_o_172 _)
def f_Q_kill_136  (b3 : Int32) (h : mH) : Option (Int32 × mH) :=
  some (b3, h)
set_option maxRecDepth 20000 in
theorem t_Q_kill_136 {sc : Nat × (Nat → Int32)}  (b3 : Int32) (h : mH) (r : Int32) (h' : mH) (hf : f_Q_kill_136  b3 h = some (r, h')) : G sc y_Q_kill prog_1_method_25_code 6 (some .int) 4 91 136 [(3, .int b3)] [] h (some (.int r)) h' := by
  unfold f_Q_kill_136 at hf
  refine g_iload_n (pc := 136) 0 dd_Q_kill_95.2.2.2.2.2.2.2.2.2.2.2.2.2.2.2.2.2.2.2.1 rfl rfl ?_
  obtain ⟨rfl, rfl⟩ := ret2 hf
  exact g_iret (pc := 137) rfl dd_Q_kill_95.2.2.2.2.2.2.2.2.2.2.2.2.2.2.2.2.2.2.2.2
def f_Q_kill_113 (rec45 : Nat → Int32 → Int32 → Int32 → Int32 → mH → Option (Int32 × mH)) (b0 : Nat) (b1 : Int32) (b2 : Int32) (b3 : Int32) (b4 : Int32) (h : mH) : Option (Int32 × mH) :=
  rec45 b0 b1 b2 b3 (b4 + (1 : Int32)) h
set_option maxRecDepth 20000 in
theorem t_Q_kill_113 {sc : Nat × (Nat → Int32)} (rec45 : Nat → Int32 → Int32 → Int32 → Int32 → mH → Option (Int32 × mH)) (hrec45 : ∀ (b0 : Nat) (b1 : Int32) (b2 : Int32) (b3 : Int32) (b4 : Int32) (h : mH) (r : Int32) (h' : mH), rec45 b0 b1 b2 b3 b4 h = some (r, h') → G sc y_Q_kill prog_1_method_25_code 6 (some .int) 4 91 45 [(0, .ref b0), (1, .int b1), (2, .int b2), (3, .int b3), (4, .int b4)] [] h (some (.int r)) h') (b0 : Nat) (b1 : Int32) (b2 : Int32) (b3 : Int32) (b4 : Int32) (h : mH) (r : Int32) (h' : mH) (hf : f_Q_kill_113 rec45 b0 b1 b2 b3 b4 h = some (r, h')) : G sc y_Q_kill prog_1_method_25_code 6 (some .int) 4 91 113 [(0, .ref b0), (1, .int b1), (2, .int b2), (3, .int b3), (4, .int b4)] [] h (some (.int r)) h' := by
  unfold f_Q_kill_113 at hf
  refine g_iinc (pc := 113) 4 (b4 + (1 : Int32)) [(4, .int (b4 + (1 : Int32))), (0, .ref b0), (1, .int b1), (2, .int b2), (3, .int b3)] dd_Q_kill_95.2.2.2.2.2.2.2.2.2.1 rfl rfl (Nat.le_of_ble_eq_true rfl) rfl ?_
  refine g_goto (pc := 116) 45 dd_Q_kill_95.2.2.2.2.2.2.2.2.2.2.1 (by decide) ?_
  refine g_lv [1, 2, 3, 4, 0] rfl ?_
  exact hrec45 _ _ _ _ _ _ _ _  hf
def f_Q_kill_82 (rec45 : Nat → Int32 → Int32 → Int32 → Int32 → mH → Option (Int32 × mH)) (b0 : Nat) (b1 : Int32) (b2 : Int32) (b3 : Int32) (b4 : Int32) (s0 : Int32) (h : mH) : Option (Int32 × mH) :=
  if s0 = 0 then
    f_Q_kill_113 rec45 b0 b1 b2 b3 b4 h
  else
    bd1 (gR h b0 0 1) fun x39 =>
    bd1 (kC h x39 4) fun _ =>
    bd2 (f_Realm_ableWithout x39 b4 b1 h) fun x45 h43 =>
    bd1 (gR h43 b0 0 1) fun x46 =>
    bd1 (kC h43 x46 4) fun _ =>
    bd2 (f_Realm_needOf x46 b1 h43) fun x52 h50 =>
    if x52 ≤ x45 then
      f_Q_kill_113 rec45 b0 b1 b2 b3 b4 h50
    else
      f_Q_kill_113 rec45 b0 b1 b2 b4 b4 h50
set_option maxRecDepth 20000 in
theorem t_Q_kill_82 {sc : Nat × (Nat → Int32)} (rec45 : Nat → Int32 → Int32 → Int32 → Int32 → mH → Option (Int32 × mH)) (hrec45 : ∀ (b0 : Nat) (b1 : Int32) (b2 : Int32) (b3 : Int32) (b4 : Int32) (h : mH) (r : Int32) (h' : mH), rec45 b0 b1 b2 b3 b4 h = some (r, h') → G sc y_Q_kill prog_1_method_25_code 6 (some .int) 4 91 45 [(0, .ref b0), (1, .int b1), (2, .int b2), (3, .int b3), (4, .int b4)] [] h (some (.int r)) h') (b0 : Nat) (b1 : Int32) (b2 : Int32) (b3 : Int32) (b4 : Int32) (s0 : Int32) (h : mH) (r : Int32) (h' : mH) (hf : f_Q_kill_82 rec45 b0 b1 b2 b3 b4 s0 h = some (r, h')) : G sc y_Q_kill prog_1_method_25_code 6 (some .int) 4 91 82 [(0, .ref b0), (1, .int b1), (2, .int b2), (3, .int b3), (4, .int b4)] [.int s0] h (some (.int r)) h' := by
  unfold f_Q_kill_82 at hf
  refine g_istore (pc := 82) [(5, .int s0), (0, .ref b0), (1, .int b1), (2, .int b2), (3, .int b3), (4, .int b4)] dd_Q_kill_45.2.2.2.2.2.2.2.2.2.2.2.2.2.2.2.2.2.2.1 (Nat.le_of_ble_eq_true rfl) rfl ?_
  refine g_iload (pc := 84) 0 dd_Q_kill_45.2.2.2.2.2.2.2.2.2.2.2.2.2.2.2.2.2.2.2.1 rfl ?_
  refine g_ifeq (pc := 86) 113 dd_Q_kill_45.2.2.2.2.2.2.2.2.2.2.2.2.2.2.2.2.2.2.2.2.1 (by decide) (fun c54 => ?_) (fun c54 => ?_)
  · replace hf := (if_pos c54).symm.trans hf
    refine g_lv [1, 2, 3, 4, 5] rfl ?_
    exact t_Q_kill_113 rec45 hrec45 _ _ _ _ _ _ _ _  hf
  · replace hf := (if_neg c54).symm.trans hf
    refine g_aload_n (pc := 89) 1 dd_Q_kill_45.2.2.2.2.2.2.2.2.2.2.2.2.2.2.2.2.2.2.2.2.2.1 rfl rfl ?_
    obtain ⟨x39, e40, hf⟩ := bd1_e hf
    refine g_get (pc := 90) (ci := 0) (kk := 1) dd_Q_kill_45.2.2.2.2.2.2.2.2.2.2.2.2.2.2.2.2.2.2.2.2.2.2.1 rfl in_Q (by decide) wd_297 (gR_spec e40) ?_
    refine g_iload (pc := 93) 5 dd_Q_kill_45.2.2.2.2.2.2.2.2.2.2.2.2.2.2.2.2.2.2.2.2.2.2.2 rfl ?_
    refine g_iload_n (pc := 95) 2 dd_Q_kill_95.1 rfl rfl ?_
    obtain ⟨u42, e41, hf⟩ := bd1_e hf
    obtain ⟨x45, h43, e44, hf⟩ := bd2_e hf
    refine g_callV (pc := 96) (ci := 4) [.int b4, .int b1] (site_of si_Realm_ableWithout (by decide) (by decide)) wd_724 wd_725 wd_726 dd_Q_kill_95.2.1 rfl e41 (Nat.le_of_ble_eq_true rfl) (fun z => absurd z si_na_Realm_ableWithout) (fun z => absurd z si_na_Realm_ableWithout) (fun z => absurd z si_na_Realm_ableWithout) (c_Realm_ableWithout e44) rfl ?_
    refine g_st [.int x45] rfl ?_
    refine g_aload_n (pc := 99) 1 dd_Q_kill_95.2.2.1 rfl rfl ?_
    obtain ⟨x46, e47, hf⟩ := bd1_e hf
    refine g_get (pc := 100) (ci := 0) (kk := 1) dd_Q_kill_95.2.2.2.1 rfl in_Q (by decide) wd_297 (gR_spec e47) ?_
    refine g_iload_n (pc := 103) 2 dd_Q_kill_95.2.2.2.2.1 rfl rfl ?_
    obtain ⟨u49, e48, hf⟩ := bd1_e hf
    obtain ⟨x52, h50, e51, hf⟩ := bd2_e hf
    refine g_callV (pc := 104) (ci := 4) [.int b1] (site_of si_Realm_needOf (by decide) (by decide)) wd_520 wd_521 wd_522 dd_Q_kill_95.2.2.2.2.2.1 rfl e48 (Nat.le_of_ble_eq_true rfl) (fun z => absurd z si_na_Realm_needOf) (fun z => absurd z si_na_Realm_needOf) (fun z => absurd z si_na_Realm_needOf) (c_Realm_needOf e51) rfl ?_
    refine g_st [.int x52, .int x45] rfl ?_
    refine g_icmpge (pc := 107) 113 dd_Q_kill_95.2.2.2.2.2.2.1 (by decide) (fun c53 => ?_) (fun c53 => ?_)
    · replace hf := (if_pos c53).symm.trans hf
      refine g_lv [1, 2, 3, 4, 5] rfl ?_
      exact t_Q_kill_113 rec45 hrec45 _ _ _ _ _ _ _ _  hf
    · replace hf := (if_neg c53).symm.trans hf
      refine g_iload (pc := 110) 5 dd_Q_kill_95.2.2.2.2.2.2.2.1 rfl ?_
      refine g_istore_n (pc := 112) [(3, .int b4), (5, .int s0), (0, .ref b0), (1, .int b1), (2, .int b2), (4, .int b4)] dd_Q_kill_95.2.2.2.2.2.2.2.2.1 rfl (Nat.le_of_ble_eq_true rfl) rfl ?_
      refine g_lv [2, 3, 4, 0, 5] rfl ?_
      exact t_Q_kill_113 rec45 hrec45 _ _ _ _ _ _ _ _  hf
def f_Q_kill_77 (rec45 : Nat → Int32 → Int32 → Int32 → Int32 → mH → Option (Int32 × mH)) (b0 : Nat) (b1 : Int32) (b2 : Int32) (b3 : Int32) (b4 : Int32) (h : mH) : Option (Int32 × mH) :=
  f_Q_kill_82 rec45 b0 b1 b2 b3 b4 (1 : Int32) h
set_option maxRecDepth 20000 in
theorem t_Q_kill_77 {sc : Nat × (Nat → Int32)} (rec45 : Nat → Int32 → Int32 → Int32 → Int32 → mH → Option (Int32 × mH)) (hrec45 : ∀ (b0 : Nat) (b1 : Int32) (b2 : Int32) (b3 : Int32) (b4 : Int32) (h : mH) (r : Int32) (h' : mH), rec45 b0 b1 b2 b3 b4 h = some (r, h') → G sc y_Q_kill prog_1_method_25_code 6 (some .int) 4 91 45 [(0, .ref b0), (1, .int b1), (2, .int b2), (3, .int b3), (4, .int b4)] [] h (some (.int r)) h') (b0 : Nat) (b1 : Int32) (b2 : Int32) (b3 : Int32) (b4 : Int32) (h : mH) (r : Int32) (h' : mH) (hf : f_Q_kill_77 rec45 b0 b1 b2 b3 b4 h = some (r, h')) : G sc y_Q_kill prog_1_method_25_code 6 (some .int) 4 91 77 [(0, .ref b0), (1, .int b1), (2, .int b2), (3, .int b3), (4, .int b4)] [] h (some (.int r)) h' := by
  unfold f_Q_kill_77 at hf
  refine g_iconst (pc := 77) (1 : Int32) dd_Q_kill_45.2.2.2.2.2.2.2.2.2.2.2.2.2.2.2.1 (by decide) ?_
  refine g_goto (pc := 78) 82 dd_Q_kill_45.2.2.2.2.2.2.2.2.2.2.2.2.2.2.2.2.1 (by decide) ?_
  refine g_lv [0, 1, 2, 3, 4] rfl ?_
  exact t_Q_kill_82 rec45 hrec45 _ _ _ _ _ _ _ _ _  hf
def f_Q_kill_45b (rec45 : Nat → Int32 → Int32 → Int32 → Int32 → mH → Option (Int32 × mH)) (b0 : Nat) (b1 : Int32) (b2 : Int32) (b3 : Int32) (b4 : Int32) (h : mH) : Option (Int32 × mH) :=
  bd1 (gR h b0 0 1) fun x21 =>
  bd1 (gI h x21 4 1) fun x23 =>
  if ((1 : Int32) <<< (x23 &&& 31)) ≤ b4 then
    if b2 = 0 then
      if b3 = ((-4) : Int32) then
        f_Q_kill_136  b3 h
      else
        bd2 (f_Integer_bitCount b3 h) fun x27 h25 =>
        some (x27, h25)
    else
      f_Q_kill_136  b3 h
  else
    if b3 = ((-4) : Int32) then
      f_Q_kill_77 rec45 b0 b1 b2 b3 b4 h
    else
      bd2 (f_Integer_bitCount b4 h) fun x32 h30 =>
      bd2 (f_Integer_bitCount b3 h30) fun x35 h33 =>
      if x35 ≤ x32 then
        f_Q_kill_82 rec45 b0 b1 b2 b3 b4 (0 : Int32) h33
      else
        f_Q_kill_77 rec45 b0 b1 b2 b3 b4 h33
set_option maxRecDepth 20000 in
theorem t_Q_kill_45b {sc : Nat × (Nat → Int32)} (rec45 : Nat → Int32 → Int32 → Int32 → Int32 → mH → Option (Int32 × mH)) (hrec45 : ∀ (b0 : Nat) (b1 : Int32) (b2 : Int32) (b3 : Int32) (b4 : Int32) (h : mH) (r : Int32) (h' : mH), rec45 b0 b1 b2 b3 b4 h = some (r, h') → G sc y_Q_kill prog_1_method_25_code 6 (some .int) 4 91 45 [(0, .ref b0), (1, .int b1), (2, .int b2), (3, .int b3), (4, .int b4)] [] h (some (.int r)) h') (b0 : Nat) (b1 : Int32) (b2 : Int32) (b3 : Int32) (b4 : Int32) (h : mH) (r : Int32) (h' : mH) (hf : f_Q_kill_45b rec45 b0 b1 b2 b3 b4 h = some (r, h')) : G sc y_Q_kill prog_1_method_25_code 6 (some .int) 4 91 45 [(0, .ref b0), (1, .int b1), (2, .int b2), (3, .int b3), (4, .int b4)] [] h (some (.int r)) h' := by
  unfold f_Q_kill_45b at hf
  refine g_iload (pc := 45) 4 dd_Q_kill_45.1 rfl ?_
  refine g_iconst (pc := 47) (1 : Int32) dd_Q_kill_45.2.1 (by decide) ?_
  refine g_aload_n (pc := 48) 0 dd_Q_kill_45.2.2.1 rfl rfl ?_
  obtain ⟨x21, e22, hf⟩ := bd1_e hf
  refine g_get (pc := 49) (ci := 0) (kk := 1) dd_Q_kill_45.2.2.2.1 rfl in_Q (by decide) wd_297 (gR_spec e22) ?_
  obtain ⟨x23, e24, hf⟩ := bd1_e hf
  refine g_get (pc := 52) (ci := 4) (kk := 1) dd_Q_kill_45.2.2.2.2.1 rfl in_Realm (by decide) wd_102 (gI_spec e24) ?_
  refine g_ishl (pc := 55) dd_Q_kill_45.2.2.2.2.2.1 ?_
  refine g_icmpge (pc := 56) 119 dd_Q_kill_45.2.2.2.2.2.2.1 (by decide) (fun c38 => ?_) (fun c38 => ?_)
  · replace hf := (if_pos c38).symm.trans hf
    refine g_iload_n (pc := 119) 2 dd_Q_kill_95.2.2.2.2.2.2.2.2.2.2.2.1 rfl rfl ?_
    refine g_ifne (pc := 120) 136 dd_Q_kill_95.2.2.2.2.2.2.2.2.2.2.2.2.1 (by decide) (fun c29 => ?_) (fun c29 => ?_)
    · replace hf := (if_neg c29).symm.trans hf
      refine g_lv [3] rfl ?_
      exact t_Q_kill_136  _ _ _ _  hf
    · replace hf := (if_pos c29).symm.trans hf
      refine g_iload_n (pc := 123) 3 dd_Q_kill_95.2.2.2.2.2.2.2.2.2.2.2.2.2.1 rfl rfl ?_
      refine g_bipush (pc := 124) ((-4) : Int32) dd_Q_kill_95.2.2.2.2.2.2.2.2.2.2.2.2.2.2.1 (by decide) ?_
      refine g_icmpeq (pc := 126) 136 dd_Q_kill_95.2.2.2.2.2.2.2.2.2.2.2.2.2.2.2.1 (by decide) (fun c28 => ?_) (fun c28 => ?_)
      · replace hf := (if_pos c28).symm.trans hf
        refine g_lv [3] rfl ?_
        exact t_Q_kill_136  _ _ _ _  hf
      · replace hf := (if_neg c28).symm.trans hf
        refine g_iload_n (pc := 129) 3 dd_Q_kill_95.2.2.2.2.2.2.2.2.2.2.2.2.2.2.2.2.1 rfl rfl ?_
        obtain ⟨x27, h25, e26, hf⟩ := bd2_e hf
        refine g_callS (pc := 130) [.int b3] (site_of si_Integer_bitCount (by decide) (by decide)) wd_615 wd_616 dd_Q_kill_95.2.2.2.2.2.2.2.2.2.2.2.2.2.2.2.2.2.1 (Nat.le_of_ble_eq_true rfl) (fun z => absurd z si_na_Integer_bitCount) (fun z => absurd z si_na_Integer_bitCount) (fun z => absurd z si_na_Integer_bitCount) (c_Integer_bitCount e26) rfl ?_
        refine g_st [.int x27] rfl ?_
        refine g_goto (pc := 133) 137 dd_Q_kill_95.2.2.2.2.2.2.2.2.2.2.2.2.2.2.2.2.2.2.1 (by decide) ?_
        obtain ⟨rfl, rfl⟩ := ret2 hf
        exact g_iret (pc := 137) rfl dd_Q_kill_95.2.2.2.2.2.2.2.2.2.2.2.2.2.2.2.2.2.2.2.2
  · replace hf := (if_neg c38).symm.trans hf
    refine g_iload_n (pc := 59) 3 dd_Q_kill_45.2.2.2.2.2.2.2.1 rfl rfl ?_
    refine g_bipush (pc := 60) ((-4) : Int32) dd_Q_kill_45.2.2.2.2.2.2.2.2.1 (by decide) ?_
    refine g_icmpeq (pc := 62) 77 dd_Q_kill_45.2.2.2.2.2.2.2.2.2.1 (by decide) (fun c37 => ?_) (fun c37 => ?_)
    · replace hf := (if_pos c37).symm.trans hf
      refine g_lv [0, 1, 2, 3, 4] rfl ?_
      exact t_Q_kill_77 rec45 hrec45 _ _ _ _ _ _ _ _  hf
    · replace hf := (if_neg c37).symm.trans hf
      refine g_iload (pc := 65) 4 dd_Q_kill_45.2.2.2.2.2.2.2.2.2.2.1 rfl ?_
      obtain ⟨x32, h30, e31, hf⟩ := bd2_e hf
      refine g_callS (pc := 67) [.int b4] (site_of si_Integer_bitCount (by decide) (by decide)) wd_615 wd_616 dd_Q_kill_45.2.2.2.2.2.2.2.2.2.2.2.1 (Nat.le_of_ble_eq_true rfl) (fun z => absurd z si_na_Integer_bitCount) (fun z => absurd z si_na_Integer_bitCount) (fun z => absurd z si_na_Integer_bitCount) (c_Integer_bitCount e31) rfl ?_
      refine g_st [.int x32] rfl ?_
      refine g_iload_n (pc := 70) 3 dd_Q_kill_45.2.2.2.2.2.2.2.2.2.2.2.2.1 rfl rfl ?_
      obtain ⟨x35, h33, e34, hf⟩ := bd2_e hf
      refine g_callS (pc := 71) [.int b3] (site_of si_Integer_bitCount (by decide) (by decide)) wd_615 wd_616 dd_Q_kill_45.2.2.2.2.2.2.2.2.2.2.2.2.2.1 (Nat.le_of_ble_eq_true rfl) (fun z => absurd z si_na_Integer_bitCount) (fun z => absurd z si_na_Integer_bitCount) (fun z => absurd z si_na_Integer_bitCount) (c_Integer_bitCount e34) rfl ?_
      refine g_st [.int x35, .int x32] rfl ?_
      refine g_icmpge (pc := 74) 81 dd_Q_kill_45.2.2.2.2.2.2.2.2.2.2.2.2.2.2.1 (by decide) (fun c36 => ?_) (fun c36 => ?_)
      · replace hf := (if_pos c36).symm.trans hf
        refine g_iconst (pc := 81) (0 : Int32) dd_Q_kill_45.2.2.2.2.2.2.2.2.2.2.2.2.2.2.2.2.2.1 (by decide) ?_
        refine g_lv [0, 1, 2, 3, 4] rfl ?_
        exact t_Q_kill_82 rec45 hrec45 _ _ _ _ _ _ _ _ _  hf
      · replace hf := (if_neg c36).symm.trans hf
        refine g_lv [0, 1, 2, 3, 4] rfl ?_
        exact t_Q_kill_77 rec45 hrec45 _ _ _ _ _ _ _ _  hf
def f_Q_kill_45  : Nat → Nat → Int32 → Int32 → Int32 → Int32 → mH → Option (Int32 × mH)
  | 0 => fun _ _ _ _ _ _ => none
  | n + 1 => f_Q_kill_45b  (f_Q_kill_45  n)
theorem t_Q_kill_45 {sc : Nat × (Nat → Int32)}  : ∀ (n : Nat) (b0 : Nat) (b1 : Int32) (b2 : Int32) (b3 : Int32) (b4 : Int32) (h : mH) (r : Int32) (h' : mH) (hf : f_Q_kill_45  n b0 b1 b2 b3 b4 h = some (r, h')), G sc y_Q_kill prog_1_method_25_code 6 (some .int) 4 91 45 [(0, .ref b0), (1, .int b1), (2, .int b2), (3, .int b3), (4, .int b4)] [] h (some (.int r)) h'
  | 0, _, _, _, _, _, _, _, _, hf => by cases hf
  | n + 1, _, _, _, _, _, _, _, _, hf => t_Q_kill_45b  (f_Q_kill_45  n) (t_Q_kill_45  n) _ _ _ _ _ _ _ _ hf
def f_Q_kill_20   (h : mH) : Option (Int32 × mH) :=
  some (((-1) : Int32), h)
set_option maxRecDepth 20000 in
theorem t_Q_kill_20 {sc : Nat × (Nat → Int32)}   (h : mH) (r : Int32) (h' : mH) (hf : f_Q_kill_20   h = some (r, h')) : G sc y_Q_kill prog_1_method_25_code 6 (some .int) 4 91 20 [] [] h (some (.int r)) h' := by
  unfold f_Q_kill_20 at hf
  refine g_iconst (pc := 20) ((-1) : Int32) dd_Q_kill_0.2.2.2.2.2.2.2.2.2.2.1 (by decide) ?_
  obtain ⟨rfl, rfl⟩ := ret2 hf
  exact g_iret (pc := 21) rfl dd_Q_kill_0.2.2.2.2.2.2.2.2.2.2.2.1
def f_Q_kill_0  (a0 : Nat) (a1 : Int32) (a2 : Int32) (h : mH) : Option (Int32 × mH) :=
  bd1 (gR h a0 0 1) fun x1 =>
  bd1 (kC h x1 4) fun _ =>
  bd2 (f_Realm_hasLaw x1 a1 h) fun x7 h5 =>
  if x7 = 0 then
    f_Q_kill_20  h5
  else
    bd2 (f_Q_isWithin a2 (0 : Int32) (1 : Int32) h5) fun x10 h8 =>
    if x10 = 0 then
      f_Q_kill_20  h8
    else
      bd1 (gR h8 a0 0 1) fun x11 =>
      bd1 (gI h8 x11 4 4) fun x13 =>
      bd2 (f_Q_hasBit x13 a1 h8) fun x17 h15 =>
      if x17 = 0 then
        some (((-2) : Int32), h15)
      else
        f_Q_kill_45  FU a0 a1 a2 ((-4) : Int32) (0 : Int32) h15
set_option maxRecDepth 20000 in
theorem t_Q_kill_0 {sc : Nat × (Nat → Int32)}  (a0 : Nat) (a1 : Int32) (a2 : Int32) (h : mH) (r : Int32) (h' : mH) (hf : f_Q_kill_0  a0 a1 a2 h = some (r, h')) : G sc y_Q_kill prog_1_method_25_code 6 (some .int) 4 91 0 [(0, .ref a0), (1, .int a1), (2, .int a2)] [] h (some (.int r)) h' := by
  unfold f_Q_kill_0 at hf
  refine g_aload_n (pc := 0) 0 dd_Q_kill_0.1 rfl rfl ?_
  obtain ⟨x1, e2, hf⟩ := bd1_e hf
  refine g_get (pc := 1) (ci := 0) (kk := 1) dd_Q_kill_0.2.1 rfl in_Q (by decide) wd_297 (gR_spec e2) ?_
  refine g_iload_n (pc := 4) 1 dd_Q_kill_0.2.2.1 rfl rfl ?_
  obtain ⟨u4, e3, hf⟩ := bd1_e hf
  obtain ⟨x7, h5, e6, hf⟩ := bd2_e hf
  refine g_callV (pc := 5) (ci := 4) [.int a1] (site_of si_Realm_hasLaw (by decide) (by decide)) wd_519 wd_488 wd_489 dd_Q_kill_0.2.2.2.1 rfl e3 (Nat.le_of_ble_eq_true rfl) (fun z => absurd z si_na_Realm_hasLaw) (fun z => absurd z si_na_Realm_hasLaw) (fun z => absurd z si_na_Realm_hasLaw) (c_Realm_hasLaw e6) rfl ?_
  refine g_st [.int x7] rfl ?_
  refine g_ifeq (pc := 8) 20 dd_Q_kill_0.2.2.2.2.1 (by decide) (fun c20 => ?_) (fun c20 => ?_)
  · replace hf := (if_pos c20).symm.trans hf
    refine g_lv [] rfl ?_
    exact t_Q_kill_20  _ _ _  hf
  · replace hf := (if_neg c20).symm.trans hf
    refine g_iload_n (pc := 11) 2 dd_Q_kill_0.2.2.2.2.2.1 rfl rfl ?_
    refine g_iconst (pc := 12) (0 : Int32) dd_Q_kill_0.2.2.2.2.2.2.1 (by decide) ?_
    refine g_iconst (pc := 13) (1 : Int32) dd_Q_kill_0.2.2.2.2.2.2.2.1 (by decide) ?_
    obtain ⟨x10, h8, e9, hf⟩ := bd2_e hf
    refine g_callS (pc := 14) [.int a2, .int (0 : Int32), .int (1 : Int32)] (site_of si_Q_isWithin (by decide) (by decide)) wd_331 wd_332 dd_Q_kill_0.2.2.2.2.2.2.2.2.1 (Nat.le_of_ble_eq_true rfl) (fun z => absurd z si_na_Q_isWithin) (fun z => absurd z si_na_Q_isWithin) (fun z => absurd z si_na_Q_isWithin) (c_Q_isWithin e9) rfl ?_
    refine g_st [.int x10] rfl ?_
    refine g_ifne (pc := 17) 22 dd_Q_kill_0.2.2.2.2.2.2.2.2.2.1 (by decide) (fun c19 => ?_) (fun c19 => ?_)
    · replace hf := (if_neg c19).symm.trans hf
      refine g_aload_n (pc := 22) 0 dd_Q_kill_0.2.2.2.2.2.2.2.2.2.2.2.2.1 rfl rfl ?_
      obtain ⟨x11, e12, hf⟩ := bd1_e hf
      refine g_get (pc := 23) (ci := 0) (kk := 1) dd_Q_kill_0.2.2.2.2.2.2.2.2.2.2.2.2.2.1 rfl in_Q (by decide) wd_297 (gR_spec e12) ?_
      obtain ⟨x13, e14, hf⟩ := bd1_e hf
      refine g_get (pc := 26) (ci := 4) (kk := 4) dd_Q_kill_0.2.2.2.2.2.2.2.2.2.2.2.2.2.2.1 rfl in_Realm (by decide) wd_109 (gI_spec e14) ?_
      refine g_iload_n (pc := 29) 1 dd_Q_kill_0.2.2.2.2.2.2.2.2.2.2.2.2.2.2.2.1 rfl rfl ?_
      obtain ⟨x17, h15, e16, hf⟩ := bd2_e hf
      refine g_callS (pc := 30) [.int x13, .int a1] (site_of si_Q_hasBit (by decide) (by decide)) wd_614 wd_469 dd_Q_kill_0.2.2.2.2.2.2.2.2.2.2.2.2.2.2.2.2.1 (Nat.le_of_ble_eq_true rfl) (fun z => absurd z si_na_Q_hasBit) (fun z => absurd z si_na_Q_hasBit) (fun z => absurd z si_na_Q_hasBit) (c_Q_hasBit e16) rfl ?_
      refine g_st [.int x17] rfl ?_
      refine g_ifne (pc := 33) 39 dd_Q_kill_0.2.2.2.2.2.2.2.2.2.2.2.2.2.2.2.2.2.1 (by decide) (fun c18 => ?_) (fun c18 => ?_)
      · replace hf := (if_neg c18).symm.trans hf
        refine g_bipush (pc := 39) ((-4) : Int32) dd_Q_kill_0.2.2.2.2.2.2.2.2.2.2.2.2.2.2.2.2.2.2.2.2.1 (by decide) ?_
        refine g_istore_n (pc := 41) [(3, .int ((-4) : Int32)), (0, .ref a0), (1, .int a1), (2, .int a2)] dd_Q_kill_0.2.2.2.2.2.2.2.2.2.2.2.2.2.2.2.2.2.2.2.2.2.1 rfl (Nat.le_of_ble_eq_true rfl) rfl ?_
        refine g_iconst (pc := 42) (0 : Int32) dd_Q_kill_0.2.2.2.2.2.2.2.2.2.2.2.2.2.2.2.2.2.2.2.2.2.2.1 (by decide) ?_
        refine g_istore (pc := 43) [(4, .int (0 : Int32)), (3, .int ((-4) : Int32)), (0, .ref a0), (1, .int a1), (2, .int a2)] dd_Q_kill_0.2.2.2.2.2.2.2.2.2.2.2.2.2.2.2.2.2.2.2.2.2.2.2 (Nat.le_of_ble_eq_true rfl) rfl ?_
        refine g_lv [2, 3, 4, 1, 0] rfl ?_
        exact t_Q_kill_45  FU _ _ _ _ _ _ _ _  hf
      · replace hf := (if_pos c18).symm.trans hf
        refine g_bipush (pc := 36) ((-2) : Int32) dd_Q_kill_0.2.2.2.2.2.2.2.2.2.2.2.2.2.2.2.2.2.2.1 (by decide) ?_
        obtain ⟨rfl, rfl⟩ := ret2 hf
        exact g_iret (pc := 38) rfl dd_Q_kill_0.2.2.2.2.2.2.2.2.2.2.2.2.2.2.2.2.2.2.2.1
    · replace hf := (if_pos c19).symm.trans hf
      refine g_lv [] rfl ?_
      exact t_Q_kill_20  _ _ _  hf
def f_Q_kill (a0 : Nat) (a1 : Int32) (a2 : Int32) (h : mH) : Option (Int32 × mH) := f_Q_kill_0 a0 a1 a2 h
theorem c_Q_kill {sc : Nat × (Nat → Int32)} {a0 : Nat} {a1 : Int32} {a2 : Int32} {h : mH} {r : Int32} {h' : mH} (hf : f_Q_kill a0 a1 a2 h = some (r, h')) : MM sc y_Q_kill prog_1_method_25_code 6 (some .int) 4 91 [.ref a0, .int a1, .int a2] h (some (.int r)) h' :=
  mm_of_G si_pn_Q (Nat.le_of_ble_eq_true rfl) (t_Q_kill_0 _ _ _ _ _ _ hf)
/-! Realm mostNeeded (I)I -/
set_option maxRecDepth 100000 in
theorem dd_Realm_mostNeeded_0 : (decode prog_5_method_25_code 0 = .ok (.aload_n 0, 1)) ∧ (decode prog_5_method_25_code 1 = .ok (.iload_n 1, 1)) ∧ (decode prog_5_method_25_code 2 = .ok (.invokevirtual 148, 3)) ∧ (decode prog_5_method_25_code 5 = .ok (.aload_n 0, 1)) ∧ (decode prog_5_method_25_code 6 = .ok (.getfield 42, 3)) ∧ (decode prog_5_method_25_code 9 = .ok (.iload_n 1, 1)) ∧ (decode prog_5_method_25_code 10 = .ok (.iaload, 1)) ∧ (decode prog_5_method_25_code 11 = .ok (.iand, 1)) ∧ (decode prog_5_method_25_code 12 = .ok (.istore_n 2, 1)) ∧ (decode prog_5_method_25_code 13 = .ok (.bipush (-4), 2)) ∧ (decode prog_5_method_25_code 15 = .ok (.istore_n 3, 1)) ∧ (decode prog_5_method_25_code 16 = .ok (.iconst 0, 1)) ∧ (decode prog_5_method_25_code 17 = .ok (.istore 4, 2)) ∧ (decode prog_5_method_25_code 19 = .ok (.iconst 0, 1)) ∧ (decode prog_5_method_25_code 20 = .ok (.istore 5, 2)) ∧ (decode prog_5_method_25_code 22 = .ok (.iload 5, 2)) ∧ (decode prog_5_method_25_code 24 = .ok (.aload_n 0, 1)) ∧ (decode prog_5_method_25_code 25 = .ok (.getfield 55, 3)) ∧ (decode prog_5_method_25_code 28 = .ok (.if_icmp .ge 40, 3)) ∧ (decode prog_5_method_25_code 31 = .ok (.iload_n 2, 1)) ∧ (decode prog_5_method_25_code 32 = .ok (.iload 5, 2)) ∧ (decode prog_5_method_25_code 34 = .ok (.invokestatic 104, 3)) ∧ (decode prog_5_method_25_code 37 = .ok (.ifCond .eq 25, 3)) ∧ (decode prog_5_method_25_code 40 = .ok (.aload_n 0, 1)) := by
  have h : List.drop 0 prog_5_method_25_code.data.toList = 0x2a :: _ := rfl
  refine ⟨zq_k_n 42 h rfl (zq_o_42 _), ?_⟩
  replace h := zq_nx1 (q := 1) h rfl
  refine ⟨zq_k_n 27 h rfl (zq_o_27 _), ?_⟩
  replace h := zq_nx1 (q := 2) h rfl
  refine ⟨zq_k_u2 182 (fun z => .invokevirtual z) 148 h rfl (zq_o_182 _) (by decide +kernel), ?_⟩
  replace h := zq_nx3 (q := 5) h rfl
  refine ⟨zq_k_n 42 h rfl (zq_o_42 _), ?_⟩
  replace h := zq_nx1 (q := 6) h rfl
  refine ⟨zq_k_u2 180 (fun z => .getfield z) 42 h rfl (zq_o_180 _) (by decide +kernel), ?_⟩
  replace h := zq_nx3 (q := 9) h rfl
  refine ⟨zq_k_n 27 h rfl (zq_o_27 _), ?_⟩
  replace h := zq_nx1 (q := 10) h rfl
  refine ⟨zq_k_n 46 h rfl (zq_o_46 _), ?_⟩
  replace h := zq_nx1 (q := 11) h rfl
  refine ⟨zq_k_n 126 h rfl (zq_o_126 _), ?_⟩
  replace h := zq_nx1 (q := 12) h rfl
  refine ⟨zq_k_n 61 h rfl (zq_o_61 _), ?_⟩
  replace h := zq_nx1 (q := 13) h rfl
  refine ⟨zq_k_s1 16 (fun z => .bipush z) (-4) h rfl (zq_o_16 _) (by decide +kernel), ?_⟩
  replace h := zq_nx2 (q := 15) h rfl
  refine ⟨zq_k_n 62 h rfl (zq_o_62 _), ?_⟩
  replace h := zq_nx1 (q := 16) h rfl
  refine ⟨zq_k_n 3 h rfl (zq_o_3 _), ?_⟩
  replace h := zq_nx1 (q := 17) h rfl
  refine ⟨zq_k_u1 54 (fun z => .istore z) 4 h rfl (zq_o_54 _) (by decide +kernel), ?_⟩
  replace h := zq_nx2 (q := 19) h rfl
  refine ⟨zq_k_n 3 h rfl (zq_o_3 _), ?_⟩
  replace h := zq_nx1 (q := 20) h rfl
  refine ⟨zq_k_u1 54 (fun z => .istore z) 5 h rfl (zq_o_54 _) (by decide +kernel), ?_⟩
  replace h := zq_nx2 (q := 22) h rfl
  refine ⟨zq_k_u1 21 (fun z => .iload z) 5 h rfl (zq_o_21 _) (by decide +kernel), ?_⟩
  replace h := zq_nx2 (q := 24) h rfl
  refine ⟨zq_k_n 42 h rfl (zq_o_42 _), ?_⟩
  replace h := zq_nx1 (q := 25) h rfl
  refine ⟨zq_k_u2 180 (fun z => .getfield z) 55 h rfl (zq_o_180 _) (by decide +kernel), ?_⟩
  replace h := zq_nx3 (q := 28) h rfl
  refine ⟨zq_k_s2 162 (fun z => .if_icmp .ge z) 40 h rfl (zq_o_162 _) (by decide +kernel), ?_⟩
  replace h := zq_nx3 (q := 31) h rfl
  refine ⟨zq_k_n 28 h rfl (zq_o_28 _), ?_⟩
  replace h := zq_nx1 (q := 32) h rfl
  refine ⟨zq_k_u1 21 (fun z => .iload z) 5 h rfl (zq_o_21 _) (by decide +kernel), ?_⟩
  replace h := zq_nx2 (q := 34) h rfl
  refine ⟨zq_k_u2 184 (fun z => .invokestatic z) 104 h rfl (zq_o_184 _) (by decide +kernel), ?_⟩
  replace h := zq_nx3 (q := 37) h rfl
  refine ⟨zq_k_s2 153 (fun z => .ifCond .eq z) 25 h rfl (zq_o_153 _) (by decide +kernel), ?_⟩
  replace h := zq_nx3 (q := 40) h rfl
  exact zq_k_n 42 h rfl (zq_o_42 _)
set_option maxRecDepth 100000 in
theorem dd_Realm_mostNeeded_41 : (decode prog_5_method_25_code 41 = .ok (.iload 5, 2)) ∧ (decode prog_5_method_25_code 43 = .ok (.invokevirtual 117, 3)) ∧ (decode prog_5_method_25_code 46 = .ok (.iload 4, 2)) ∧ (decode prog_5_method_25_code 48 = .ok (.if_icmp .le 14, 3)) ∧ (decode prog_5_method_25_code 51 = .ok (.iload 5, 2)) ∧ (decode prog_5_method_25_code 53 = .ok (.istore_n 3, 1)) ∧ (decode prog_5_method_25_code 54 = .ok (.aload_n 0, 1)) ∧ (decode prog_5_method_25_code 55 = .ok (.iload 5, 2)) ∧ (decode prog_5_method_25_code 57 = .ok (.invokevirtual 117, 3)) ∧ (decode prog_5_method_25_code 60 = .ok (.istore 4, 2)) ∧ (decode prog_5_method_25_code 62 = .ok (.iinc 5 1, 3)) ∧ (decode prog_5_method_25_code 65 = .ok (.goto (-43), 3)) ∧ (decode prog_5_method_25_code 68 = .ok (.iload_n 3, 1)) ∧ (decode prog_5_method_25_code 69 = .ok (.ireturn, 1)) := by
  have h : List.drop 41 prog_5_method_25_code.data.toList = 0x15 :: _ := rfl
  refine ⟨zq_k_u1 21 (fun z => .iload z) 5 h rfl (zq_o_21 _) (by decide +kernel), ?_⟩
  replace h := zq_nx2 (q := 43) h rfl
  refine ⟨zq_k_u2 182 (fun z => .invokevirtual z) 117 h rfl (zq_o_182 _) (by decide +kernel), ?_⟩
  replace h := zq_nx3 (q := 46) h rfl
  refine ⟨zq_k_u1 21 (fun z => .iload z) 4 h rfl (zq_o_21 _) (by decide +kernel), ?_⟩
  replace h := zq_nx2 (q := 48) h rfl
  refine ⟨zq_k_s2 164 (fun z => .if_icmp .le z) 14 h rfl (zq_o_164 _) (by decide +kernel), ?_⟩
  replace h := zq_nx3 (q := 51) h rfl
  refine ⟨zq_k_u1 21 (fun z => .iload z) 5 h rfl (zq_o_21 _) (by decide +kernel), ?_⟩
  replace h := zq_nx2 (q := 53) h rfl
  refine ⟨zq_k_n 62 h rfl (zq_o_62 _), ?_⟩
  replace h := zq_nx1 (q := 54) h rfl
  refine ⟨zq_k_n 42 h rfl (zq_o_42 _), ?_⟩
  replace h := zq_nx1 (q := 55) h rfl
  refine ⟨zq_k_u1 21 (fun z => .iload z) 5 h rfl (zq_o_21 _) (by decide +kernel), ?_⟩
  replace h := zq_nx2 (q := 57) h rfl
  refine ⟨zq_k_u2 182 (fun z => .invokevirtual z) 117 h rfl (zq_o_182 _) (by decide +kernel), ?_⟩
  replace h := zq_nx3 (q := 60) h rfl
  refine ⟨zq_k_u1 54 (fun z => .istore z) 4 h rfl (zq_o_54 _) (by decide +kernel), ?_⟩
  replace h := zq_nx2 (q := 62) h rfl
  refine ⟨zq_k_iinc 5 1 h rfl (zq_o_132 _) (by decide +kernel) (by decide +kernel), ?_⟩
  replace h := zq_nx3 (q := 65) h rfl
  refine ⟨zq_k_s2 167 (fun z => .goto z) (-43) h rfl (zq_o_167 _) (by decide +kernel), ?_⟩
  replace h := zq_nx3 (q := 68) h rfl
  refine ⟨zq_k_n 29 h rfl (zq_o_29 _), ?_⟩
  replace h := zq_nx1 (q := 69) h rfl
  exact zq_k_n 172 h rfl (zq_o_172 _)
def f_Realm_mostNeeded_62 (rec22 : Nat → Int32 → Int32 → Int32 → Int32 → mH → Option (Int32 × mH)) (b0 : Nat) (b2 : Int32) (b3 : Int32) (b4 : Int32) (b5 : Int32) (h : mH) : Option (Int32 × mH) :=
  rec22 b0 b2 b3 b4 (b5 + (1 : Int32)) h
set_option maxRecDepth 20000 in
theorem t_Realm_mostNeeded_62 {sc : Nat × (Nat → Int32)} (rec22 : Nat → Int32 → Int32 → Int32 → Int32 → mH → Option (Int32 × mH)) (hrec22 : ∀ (b0 : Nat) (b2 : Int32) (b3 : Int32) (b4 : Int32) (b5 : Int32) (h : mH) (r : Int32) (h' : mH), rec22 b0 b2 b3 b4 b5 h = some (r, h') → G sc y_Realm_mostNeeded prog_5_method_25_code 6 (some .int) 4 90 22 [(0, .ref b0), (2, .int b2), (3, .int b3), (4, .int b4), (5, .int b5)] [] h (some (.int r)) h') (b0 : Nat) (b2 : Int32) (b3 : Int32) (b4 : Int32) (b5 : Int32) (h : mH) (r : Int32) (h' : mH) (hf : f_Realm_mostNeeded_62 rec22 b0 b2 b3 b4 b5 h = some (r, h')) : G sc y_Realm_mostNeeded prog_5_method_25_code 6 (some .int) 4 90 62 [(0, .ref b0), (2, .int b2), (3, .int b3), (4, .int b4), (5, .int b5)] [] h (some (.int r)) h' := by
  unfold f_Realm_mostNeeded_62 at hf
  refine g_iinc (pc := 62) 4 (b5 + (1 : Int32)) [(5, .int (b5 + (1 : Int32))), (0, .ref b0), (2, .int b2), (3, .int b3), (4, .int b4)] dd_Realm_mostNeeded_41.2.2.2.2.2.2.2.2.2.2.1 rfl rfl (Nat.le_of_ble_eq_true rfl) rfl ?_
  refine g_goto (pc := 65) 22 dd_Realm_mostNeeded_41.2.2.2.2.2.2.2.2.2.2.2.1 (by decide) ?_
  refine g_lv [1, 2, 3, 4, 0] rfl ?_
  exact hrec22 _ _ _ _ _ _ _ _  hf
def f_Realm_mostNeeded_22b (rec22 : Nat → Int32 → Int32 → Int32 → Int32 → mH → Option (Int32 × mH)) (b0 : Nat) (b2 : Int32) (b3 : Int32) (b4 : Int32) (b5 : Int32) (h : mH) : Option (Int32 × mH) :=
  bd1 (gI h b0 4 0) fun x10 =>
  if x10 ≤ b5 then
    some (b3, h)
  else
    bd2 (f_Q_hasBit b2 b5 h) fun x14 h12 =>
    if x14 = 0 then
      f_Realm_mostNeeded_62 rec22 b0 b2 b3 b4 b5 h12
    else
      bd1 (kC h12 b0 4) fun _ =>
      bd2 (f_Realm_needOf b0 b5 h12) fun x19 h17 =>
      if x19 ≤ b4 then
        f_Realm_mostNeeded_62 rec22 b0 b2 b3 b4 b5 h17
      else
        bd1 (kC h17 b0 4) fun _ =>
        bd2 (f_Realm_needOf b0 b5 h17) fun x24 h22 =>
        f_Realm_mostNeeded_62 rec22 b0 b2 b5 x24 b5 h22
set_option maxRecDepth 20000 in
theorem t_Realm_mostNeeded_22b {sc : Nat × (Nat → Int32)} (rec22 : Nat → Int32 → Int32 → Int32 → Int32 → mH → Option (Int32 × mH)) (hrec22 : ∀ (b0 : Nat) (b2 : Int32) (b3 : Int32) (b4 : Int32) (b5 : Int32) (h : mH) (r : Int32) (h' : mH), rec22 b0 b2 b3 b4 b5 h = some (r, h') → G sc y_Realm_mostNeeded prog_5_method_25_code 6 (some .int) 4 90 22 [(0, .ref b0), (2, .int b2), (3, .int b3), (4, .int b4), (5, .int b5)] [] h (some (.int r)) h') (b0 : Nat) (b2 : Int32) (b3 : Int32) (b4 : Int32) (b5 : Int32) (h : mH) (r : Int32) (h' : mH) (hf : f_Realm_mostNeeded_22b rec22 b0 b2 b3 b4 b5 h = some (r, h')) : G sc y_Realm_mostNeeded prog_5_method_25_code 6 (some .int) 4 90 22 [(0, .ref b0), (2, .int b2), (3, .int b3), (4, .int b4), (5, .int b5)] [] h (some (.int r)) h' := by
  unfold f_Realm_mostNeeded_22b at hf
  refine g_iload (pc := 22) 4 dd_Realm_mostNeeded_0.2.2.2.2.2.2.2.2.2.2.2.2.2.2.2.1 rfl ?_
  refine g_aload_n (pc := 24) 0 dd_Realm_mostNeeded_0.2.2.2.2.2.2.2.2.2.2.2.2.2.2.2.2.1 rfl rfl ?_
  obtain ⟨x10, e11, hf⟩ := bd1_e hf
  refine g_get (pc := 25) (ci := 4) (kk := 0) dd_Realm_mostNeeded_0.2.2.2.2.2.2.2.2.2.2.2.2.2.2.2.2.2.1 rfl in_Realm (by decide) wd_93 (gI_spec e11) ?_
  refine g_icmpge (pc := 28) 68 dd_Realm_mostNeeded_0.2.2.2.2.2.2.2.2.2.2.2.2.2.2.2.2.2.2.1 (by decide) (fun c27 => ?_) (fun c27 => ?_)
  · replace hf := (if_pos c27).symm.trans hf
    refine g_iload_n (pc := 68) 2 dd_Realm_mostNeeded_41.2.2.2.2.2.2.2.2.2.2.2.2.1 rfl rfl ?_
    obtain ⟨rfl, rfl⟩ := ret2 hf
    exact g_iret (pc := 69) rfl dd_Realm_mostNeeded_41.2.2.2.2.2.2.2.2.2.2.2.2.2
  · replace hf := (if_neg c27).symm.trans hf
    refine g_iload_n (pc := 31) 1 dd_Realm_mostNeeded_0.2.2.2.2.2.2.2.2.2.2.2.2.2.2.2.2.2.2.2.1 rfl rfl ?_
    refine g_iload (pc := 32) 4 dd_Realm_mostNeeded_0.2.2.2.2.2.2.2.2.2.2.2.2.2.2.2.2.2.2.2.2.1 rfl ?_
    obtain ⟨x14, h12, e13, hf⟩ := bd2_e hf
    refine g_callSN (pc := 34) "QuotaLaws" [.int b2, .int b5] (site_of si_Q_hasBit (by decide) (by decide)) wd_524 wd_469 dd_Realm_mostNeeded_0.2.2.2.2.2.2.2.2.2.2.2.2.2.2.2.2.2.2.2.2.2.1 (Nat.le_of_ble_eq_true rfl) (fun z => absurd z si_na_Q_hasBit) (fun z => absurd z si_na_Q_hasBit) (fun z => absurd z si_na_Q_hasBit) (c_Q_hasBit e13) rfl ?_
    refine g_st [.int x14] rfl ?_
    refine g_ifeq (pc := 37) 62 dd_Realm_mostNeeded_0.2.2.2.2.2.2.2.2.2.2.2.2.2.2.2.2.2.2.2.2.2.2.1 (by decide) (fun c26 => ?_) (fun c26 => ?_)
    · replace hf := (if_pos c26).symm.trans hf
      refine g_lv [0, 1, 2, 3, 4] rfl ?_
      exact t_Realm_mostNeeded_62 rec22 hrec22 _ _ _ _ _ _ _ _  hf
    · replace hf := (if_neg c26).symm.trans hf
      refine g_aload_n (pc := 40) 0 dd_Realm_mostNeeded_0.2.2.2.2.2.2.2.2.2.2.2.2.2.2.2.2.2.2.2.2.2.2.2 rfl rfl ?_
      refine g_iload (pc := 41) 4 dd_Realm_mostNeeded_41.1 rfl ?_
      obtain ⟨u16, e15, hf⟩ := bd1_e hf
      obtain ⟨x19, h17, e18, hf⟩ := bd2_e hf
      refine g_callV (pc := 43) (ci := 4) [.int b5] (site_of si_Realm_needOf (by decide) (by decide)) wd_646 wd_521 wd_522 dd_Realm_mostNeeded_41.2.1 rfl e15 (Nat.le_of_ble_eq_true rfl) (fun z => absurd z si_na_Realm_needOf) (fun z => absurd z si_na_Realm_needOf) (fun z => absurd z si_na_Realm_needOf) (c_Realm_needOf e18) rfl ?_
      refine g_st [.int x19] rfl ?_
      refine g_iload (pc := 46) 3 dd_Realm_mostNeeded_41.2.2.1 rfl ?_
      refine g_icmple (pc := 48) 62 dd_Realm_mostNeeded_41.2.2.2.1 (by decide) (fun c25 => ?_) (fun c25 => ?_)
      · replace hf := (if_pos c25).symm.trans hf
        refine g_lv [0, 1, 2, 3, 4] rfl ?_
        exact t_Realm_mostNeeded_62 rec22 hrec22 _ _ _ _ _ _ _ _  hf
      · replace hf := (if_neg c25).symm.trans hf
        refine g_iload (pc := 51) 4 dd_Realm_mostNeeded_41.2.2.2.2.1 rfl ?_
        refine g_istore_n (pc := 53) [(3, .int b5), (0, .ref b0), (2, .int b2), (4, .int b4), (5, .int b5)] dd_Realm_mostNeeded_41.2.2.2.2.2.1 rfl (Nat.le_of_ble_eq_true rfl) rfl ?_
        refine g_aload_n (pc := 54) 1 dd_Realm_mostNeeded_41.2.2.2.2.2.2.1 rfl rfl ?_
        refine g_iload (pc := 55) 4 dd_Realm_mostNeeded_41.2.2.2.2.2.2.2.1 rfl ?_
        obtain ⟨u21, e20, hf⟩ := bd1_e hf
        obtain ⟨x24, h22, e23, hf⟩ := bd2_e hf
        refine g_callV (pc := 57) (ci := 4) [.int b5] (site_of si_Realm_needOf (by decide) (by decide)) wd_646 wd_521 wd_522 dd_Realm_mostNeeded_41.2.2.2.2.2.2.2.2.1 rfl e20 (Nat.le_of_ble_eq_true rfl) (fun z => absurd z si_na_Realm_needOf) (fun z => absurd z si_na_Realm_needOf) (fun z => absurd z si_na_Realm_needOf) (c_Realm_needOf e23) rfl ?_
        refine g_st [.int x24] rfl ?_
        refine g_istore (pc := 60) [(4, .int x24), (3, .int b5), (0, .ref b0), (2, .int b2), (5, .int b5)] dd_Realm_mostNeeded_41.2.2.2.2.2.2.2.2.2.1 (Nat.le_of_ble_eq_true rfl) rfl ?_
        refine g_lv [2, 3, 1, 0, 4] rfl ?_
        exact t_Realm_mostNeeded_62 rec22 hrec22 _ _ _ _ _ _ _ _  hf
def f_Realm_mostNeeded_22  : Nat → Nat → Int32 → Int32 → Int32 → Int32 → mH → Option (Int32 × mH)
  | 0 => fun _ _ _ _ _ _ => none
  | n + 1 => f_Realm_mostNeeded_22b  (f_Realm_mostNeeded_22  n)
theorem t_Realm_mostNeeded_22 {sc : Nat × (Nat → Int32)}  : ∀ (n : Nat) (b0 : Nat) (b2 : Int32) (b3 : Int32) (b4 : Int32) (b5 : Int32) (h : mH) (r : Int32) (h' : mH) (hf : f_Realm_mostNeeded_22  n b0 b2 b3 b4 b5 h = some (r, h')), G sc y_Realm_mostNeeded prog_5_method_25_code 6 (some .int) 4 90 22 [(0, .ref b0), (2, .int b2), (3, .int b3), (4, .int b4), (5, .int b5)] [] h (some (.int r)) h'
  | 0, _, _, _, _, _, _, _, _, hf => by cases hf
  | n + 1, _, _, _, _, _, _, _, _, hf => t_Realm_mostNeeded_22b  (f_Realm_mostNeeded_22  n) (t_Realm_mostNeeded_22  n) _ _ _ _ _ _ _ _ hf
def f_Realm_mostNeeded_0  (a0 : Nat) (a1 : Int32) (h : mH) : Option (Int32 × mH) :=
  bd1 (kC h a0 4) fun _ =>
  bd2 (f_Realm_breakable a0 a1 h) fun x5 h3 =>
  bd1 (gR h3 a0 4 16) fun x6 =>
  bd1 (aI h3 0 x6 a1) fun x8 =>
  f_Realm_mostNeeded_22  FU a0 (x5 &&& x8) ((-4) : Int32) (0 : Int32) (0 : Int32) h3
set_option maxRecDepth 20000 in
theorem t_Realm_mostNeeded_0 {sc : Nat × (Nat → Int32)}  (a0 : Nat) (a1 : Int32) (h : mH) (r : Int32) (h' : mH) (hf : f_Realm_mostNeeded_0  a0 a1 h = some (r, h')) : G sc y_Realm_mostNeeded prog_5_method_25_code 6 (some .int) 4 90 0 [(0, .ref a0), (1, .int a1)] [] h (some (.int r)) h' := by
  unfold f_Realm_mostNeeded_0 at hf
  refine g_aload_n (pc := 0) 0 dd_Realm_mostNeeded_0.1 rfl rfl ?_
  refine g_iload_n (pc := 1) 1 dd_Realm_mostNeeded_0.2.1 rfl rfl ?_
  obtain ⟨u2, e1, hf⟩ := bd1_e hf
  obtain ⟨x5, h3, e4, hf⟩ := bd2_e hf
  refine g_callV (pc := 2) (ci := 4) [.int a1] (site_of si_Realm_breakable (by decide) (by decide)) wd_740 wd_547 wd_548 dd_Realm_mostNeeded_0.2.2.1 rfl e1 (Nat.le_of_ble_eq_true rfl) (fun z => absurd z si_na_Realm_breakable) (fun z => absurd z si_na_Realm_breakable) (fun z => absurd z si_na_Realm_breakable) (c_Realm_breakable e4) rfl ?_
  refine g_st [.int x5] rfl ?_
  refine g_aload_n (pc := 5) 0 dd_Realm_mostNeeded_0.2.2.2.1 rfl rfl ?_
  obtain ⟨x6, e7, hf⟩ := bd1_e hf
  refine g_get (pc := 6) (ci := 4) (kk := 16) dd_Realm_mostNeeded_0.2.2.2.2.1 rfl in_Realm (by decide) wd_149 (gR_spec e7) ?_
  refine g_iload_n (pc := 9) 1 dd_Realm_mostNeeded_0.2.2.2.2.2.1 rfl rfl ?_
  obtain ⟨x8, e9, hf⟩ := bd1_e hf
  refine g_iald (pc := 10) dd_Realm_mostNeeded_0.2.2.2.2.2.2.1 e9 ?_
  refine g_iand (pc := 11) dd_Realm_mostNeeded_0.2.2.2.2.2.2.2.1 ?_
  refine g_istore_n (pc := 12) [(2, .int (x5 &&& x8)), (0, .ref a0), (1, .int a1)] dd_Realm_mostNeeded_0.2.2.2.2.2.2.2.2.1 rfl (Nat.le_of_ble_eq_true rfl) rfl ?_
  refine g_bipush (pc := 13) ((-4) : Int32) dd_Realm_mostNeeded_0.2.2.2.2.2.2.2.2.2.1 (by decide) ?_
  refine g_istore_n (pc := 15) [(3, .int ((-4) : Int32)), (2, .int (x5 &&& x8)), (0, .ref a0), (1, .int a1)] dd_Realm_mostNeeded_0.2.2.2.2.2.2.2.2.2.2.1 rfl (Nat.le_of_ble_eq_true rfl) rfl ?_
  refine g_iconst (pc := 16) (0 : Int32) dd_Realm_mostNeeded_0.2.2.2.2.2.2.2.2.2.2.2.1 (by decide) ?_
  refine g_istore (pc := 17) [(4, .int (0 : Int32)), (3, .int ((-4) : Int32)), (2, .int (x5 &&& x8)), (0, .ref a0), (1, .int a1)] dd_Realm_mostNeeded_0.2.2.2.2.2.2.2.2.2.2.2.2.1 (Nat.le_of_ble_eq_true rfl) rfl ?_
  refine g_iconst (pc := 19) (0 : Int32) dd_Realm_mostNeeded_0.2.2.2.2.2.2.2.2.2.2.2.2.2.1 (by decide) ?_
  refine g_istore (pc := 20) [(5, .int (0 : Int32)), (4, .int (0 : Int32)), (3, .int ((-4) : Int32)), (2, .int (x5 &&& x8)), (0, .ref a0), (1, .int a1)] dd_Realm_mostNeeded_0.2.2.2.2.2.2.2.2.2.2.2.2.2.2.1 (Nat.le_of_ble_eq_true rfl) rfl ?_
  refine g_lv [4, 3, 2, 1, 0] rfl ?_
  exact t_Realm_mostNeeded_22  FU _ _ _ _ _ _ _ _  hf
def f_Realm_mostNeeded (a0 : Nat) (a1 : Int32) (h : mH) : Option (Int32 × mH) := f_Realm_mostNeeded_0 a0 a1 h
theorem c_Realm_mostNeeded {sc : Nat × (Nat → Int32)} {a0 : Nat} {a1 : Int32} {h : mH} {r : Int32} {h' : mH} (hf : f_Realm_mostNeeded a0 a1 h = some (r, h')) : MM sc y_Realm_mostNeeded prog_5_method_25_code 6 (some .int) 4 90 [.ref a0, .int a1] h (some (.int r)) h' :=
  mm_of_G si_pn_Realm (Nat.le_of_ble_eq_true rfl) (t_Realm_mostNeeded_0 _ _ _ _ _ hf)
/-! Realm eachForHimself ()I -/
set_option maxRecDepth 100000 in
theorem dd_Realm_eachForHimself_0 : (decode prog_5_method_24_code 0 = .ok (.iconst 0, 1)) ∧ (decode prog_5_method_24_code 1 = .ok (.istore_n 1, 1)) ∧ (decode prog_5_method_24_code 2 = .ok (.iconst 0, 1)) ∧ (decode prog_5_method_24_code 3 = .ok (.istore_n 2, 1)) ∧ (decode prog_5_method_24_code 4 = .ok (.iload_n 2, 1)) ∧ (decode prog_5_method_24_code 5 = .ok (.bipush 15, 2)) ∧ (decode prog_5_method_24_code 7 = .ok (.if_icmp .gt 64, 3)) ∧ (decode prog_5_method_24_code 10 = .ok (.iload_n 1, 1)) ∧ (decode prog_5_method_24_code 11 = .ok (.istore_n 3, 1)) ∧ (decode prog_5_method_24_code 12 = .ok (.iconst 0, 1)) ∧ (decode prog_5_method_24_code 13 = .ok (.istore 4, 2)) ∧ (decode prog_5_method_24_code 15 = .ok (.iload 4, 2)) ∧ (decode prog_5_method_24_code 17 = .ok (.aload_n 0, 1)) ∧ (decode prog_5_method_24_code 18 = .ok (.getfield 59, 3)) ∧ (decode prog_5_method_24_code 21 = .ok (.if_icmp .ge 36, 3)) ∧ (decode prog_5_method_24_code 24 = .ok (.aload_n 0, 1)) ∧ (decode prog_5_method_24_code 25 = .ok (.iload 4, 2)) ∧ (decode prog_5_method_24_code 27 = .ok (.invokevirtual 145, 3)) ∧ (decode prog_5_method_24_code 30 = .ok (.istore 5, 2)) ∧ (decode prog_5_method_24_code 32 = .ok (.iload 5, 2)) ∧ (decode prog_5_method_24_code 34 = .ok (.bipush (-4), 2)) ∧ (decode prog_5_method_24_code 36 = .ok (.if_icmp .eq 15, 3)) ∧ (decode prog_5_method_24_code 39 = .ok (.aload_n 0, 1)) ∧ (decode prog_5_method_24_code 40 = .ok (.iload 4, 2)) := by
  have h : List.drop 0 prog_5_method_24_code.data.toList = 0x03 :: _ := rfl
  refine ⟨zq_k_n 3 h rfl (zq_o_3 _), ?_⟩
  replace h := zq_nx1 (q := 1) h rfl
  refine ⟨zq_k_n 60 h rfl (zq_o_60 _), ?_⟩
  replace h := zq_nx1 (q := 2) h rfl
  refine ⟨zq_k_n 3 h rfl (zq_o_3 _), ?_⟩
  replace h := zq_nx1 (q := 3) h rfl
  refine ⟨zq_k_n 61 h rfl (zq_o_61 _), ?_⟩
  replace h := zq_nx1 (q := 4) h rfl
  refine ⟨zq_k_n 28 h rfl (zq_o_28 _), ?_⟩
  replace h := zq_nx1 (q := 5) h rfl
  refine ⟨zq_k_s1 16 (fun z => .bipush z) 15 h rfl (zq_o_16 _) (by decide +kernel), ?_⟩
  replace h := zq_nx2 (q := 7) h rfl
  refine ⟨zq_k_s2 163 (fun z => .if_icmp .gt z) 64 h rfl (zq_o_163 _) (by decide +kernel), ?_⟩
  replace h := zq_nx3 (q := 10) h rfl
  refine ⟨zq_k_n 27 h rfl (zq_o_27 _), ?_⟩
  replace h := zq_nx1 (q := 11) h rfl
  refine ⟨zq_k_n 62 h rfl (zq_o_62 _), ?_⟩
  replace h := zq_nx1 (q := 12) h rfl
  refine ⟨zq_k_n 3 h rfl (zq_o_3 _), ?_⟩
  replace h := zq_nx1 (q := 13) h rfl
  refine ⟨zq_k_u1 54 (fun z => .istore z) 4 h rfl (zq_o_54 _) (by decide +kernel), ?_⟩
  replace h := zq_nx2 (q := 15) h rfl
  refine ⟨zq_k_u1 21 (fun z => .iload z) 4 h rfl (zq_o_21 _) (by decide +kernel), ?_⟩
  replace h := zq_nx2 (q := 17) h rfl
  refine ⟨zq_k_n 42 h rfl (zq_o_42 _), ?_⟩
  replace h := zq_nx1 (q := 18) h rfl
  refine ⟨zq_k_u2 180 (fun z => .getfield z) 59 h rfl (zq_o_180 _) (by decide +kernel), ?_⟩
  replace h := zq_nx3 (q := 21) h rfl
  refine ⟨zq_k_s2 162 (fun z => .if_icmp .ge z) 36 h rfl (zq_o_162 _) (by decide +kernel), ?_⟩
  replace h := zq_nx3 (q := 24) h rfl
  refine ⟨zq_k_n 42 h rfl (zq_o_42 _), ?_⟩
  replace h := zq_nx1 (q := 25) h rfl
  refine ⟨zq_k_u1 21 (fun z => .iload z) 4 h rfl (zq_o_21 _) (by decide +kernel), ?_⟩
  replace h := zq_nx2 (q := 27) h rfl
  refine ⟨zq_k_u2 182 (fun z => .invokevirtual z) 145 h rfl (zq_o_182 _) (by decide +kernel), ?_⟩
  replace h := zq_nx3 (q := 30) h rfl
  refine ⟨zq_k_u1 54 (fun z => .istore z) 5 h rfl (zq_o_54 _) (by decide +kernel), ?_⟩
  replace h := zq_nx2 (q := 32) h rfl
  refine ⟨zq_k_u1 21 (fun z => .iload z) 5 h rfl (zq_o_21 _) (by decide +kernel), ?_⟩
  replace h := zq_nx2 (q := 34) h rfl
  refine ⟨zq_k_s1 16 (fun z => .bipush z) (-4) h rfl (zq_o_16 _) (by decide +kernel), ?_⟩
  replace h := zq_nx2 (q := 36) h rfl
  refine ⟨zq_k_s2 159 (fun z => .if_icmp .eq z) 15 h rfl (zq_o_159 _) (by decide +kernel), ?_⟩
  replace h := zq_nx3 (q := 39) h rfl
  refine ⟨zq_k_n 42 h rfl (zq_o_42 _), ?_⟩
  replace h := zq_nx1 (q := 40) h rfl
  exact zq_k_u1 21 (fun z => .iload z) 4 h rfl (zq_o_21 _) (by decide +kernel)
set_option maxRecDepth 100000 in
theorem dd_Realm_eachForHimself_42 : (decode prog_5_method_24_code 42 = .ok (.iload 5, 2)) ∧ (decode prog_5_method_24_code 44 = .ok (.invokevirtual 135, 3)) ∧ (decode prog_5_method_24_code 47 = .ok (.pop, 1)) ∧ (decode prog_5_method_24_code 48 = .ok (.iinc 1 1, 3)) ∧ (decode prog_5_method_24_code 51 = .ok (.iinc 4 1, 3)) ∧ (decode prog_5_method_24_code 54 = .ok (.goto (-39), 3)) ∧ (decode prog_5_method_24_code 57 = .ok (.iload_n 1, 1)) ∧ (decode prog_5_method_24_code 58 = .ok (.iload_n 3, 1)) ∧ (decode prog_5_method_24_code 59 = .ok (.if_icmp .ne 6, 3)) ∧ (decode prog_5_method_24_code 62 = .ok (.goto 9, 3)) ∧ (decode prog_5_method_24_code 65 = .ok (.iinc 2 1, 3)) ∧ (decode prog_5_method_24_code 68 = .ok (.goto (-64), 3)) ∧ (decode prog_5_method_24_code 71 = .ok (.iload_n 1, 1)) ∧ (decode prog_5_method_24_code 72 = .ok (.ireturn, 1)) := by
  have h : List.drop 42 prog_5_method_24_code.data.toList = 0x15 :: _ := rfl
  refine ⟨zq_k_u1 21 (fun z => .iload z) 5 h rfl (zq_o_21 _) (by decide +kernel), ?_⟩
  replace h := zq_nx2 (q := 44) h rfl
  refine ⟨zq_k_u2 182 (fun z => .invokevirtual z) 135 h rfl (zq_o_182 _) (by decide +kernel), ?_⟩
  replace h := zq_nx3 (q := 47) h rfl
  refine ⟨zq_k_n 87 h rfl (zq_o_87 _), ?_⟩
  replace h := zq_nx1 (q := 48) h rfl
  refine ⟨zq_k_iinc 1 1 h rfl (zq_o_132 _) (by decide +kernel) (by decide +kernel), ?_⟩
  replace h := zq_nx3 (q := 51) h rfl
  refine ⟨zq_k_iinc 4 1 h rfl (zq_o_132 _) (by decide +kernel) (by decide +kernel), ?_⟩
  replace h := zq_nx3 (q := 54) h rfl
  refine ⟨zq_k_s2 167 (fun z => .goto z) (-39) h rfl (zq_o_167 _) (by decide +kernel), ?_⟩
  replace h := zq_nx3 (q := 57) h rfl
  refine ⟨zq_k_n 27 h rfl (zq_o_27 _), ?_⟩
  replace h := zq_nx1 (q := 58) h rfl
  refine ⟨zq_k_n 29 h rfl (zq_o_29 _), ?_⟩
  replace h := zq_nx1 (q := 59) h rfl
  refine ⟨zq_k_s2 160 (fun z => .if_icmp .ne z) 6 h rfl (zq_o_160 _) (by decide +kernel), ?_⟩
  replace h := zq_nx3 (q := 62) h rfl
  refine ⟨zq_k_s2 167 (fun z => .goto z) 9 h rfl (zq_o_167 _) (by decide +kernel), ?_⟩
  replace h := zq_nx3 (q := 65) h rfl
  refine ⟨zq_k_iinc 2 1 h rfl (zq_o_132 _) (by decide +kernel) (by decide +kernel), ?_⟩
  replace h := zq_nx3 (q := 68) h rfl
  refine ⟨zq_k_s2 167 (fun z => .goto z) (-64) h rfl (zq_o_167 _) (by decide +kernel), ?_⟩
  replace h := zq_nx3 (q := 71) h rfl
  refine ⟨zq_k_n 27 h rfl (zq_o_27 _), ?_⟩
  replace h := zq_nx1 (q := 72) h rfl
  exact zq_k_n 172 h rfl (zq_o_172 _)
def f_Realm_eachForHimself_71  (b1 : Int32) (h : mH) : Option (Int32 × mH) :=
  some (b1, h)
set_option maxRecDepth 20000 in
theorem t_Realm_eachForHimself_71 {sc : Nat × (Nat → Int32)}  (b1 : Int32) (h : mH) (r : Int32) (h' : mH) (hf : f_Realm_eachForHimself_71  b1 h = some (r, h')) : G sc y_Realm_eachForHimself prog_5_method_24_code 6 (some .int) 5 115 71 [(1, .int b1)] [] h (some (.int r)) h' := by
  unfold f_Realm_eachForHimself_71 at hf
  refine g_iload_n (pc := 71) 0 dd_Realm_eachForHimself_42.2.2.2.2.2.2.2.2.2.2.2.2.1 rfl rfl ?_
  obtain ⟨rfl, rfl⟩ := ret2 hf
  exact g_iret (pc := 72) rfl dd_Realm_eachForHimself_42.2.2.2.2.2.2.2.2.2.2.2.2.2
def f_Realm_eachForHimself_51 (rec4 : Nat → Int32 → Int32 → mH → Option (Int32 × mH)) (rec15 : Nat → Int32 → Int32 → Int32 → Int32 → mH → Option (Int32 × mH)) (b0 : Nat) (b1 : Int32) (b2 : Int32) (b3 : Int32) (b4 : Int32) (h : mH) : Option (Int32 × mH) :=
  rec15 b0 b1 b2 b3 (b4 + (1 : Int32)) h
set_option maxRecDepth 20000 in
theorem t_Realm_eachForHimself_51 {sc : Nat × (Nat → Int32)} (rec4 : Nat → Int32 → Int32 → mH → Option (Int32 × mH)) (hrec4 : ∀ (b0 : Nat) (b1 : Int32) (b2 : Int32) (h : mH) (r : Int32) (h' : mH), rec4 b0 b1 b2 h = some (r, h') → G sc y_Realm_eachForHimself prog_5_method_24_code 6 (some .int) 5 115 4 [(0, .ref b0), (1, .int b1), (2, .int b2)] [] h (some (.int r)) h') (rec15 : Nat → Int32 → Int32 → Int32 → Int32 → mH → Option (Int32 × mH)) (hrec15 : ∀ (b0 : Nat) (b1 : Int32) (b2 : Int32) (b3 : Int32) (b4 : Int32) (h : mH) (r : Int32) (h' : mH), rec15 b0 b1 b2 b3 b4 h = some (r, h') → G sc y_Realm_eachForHimself prog_5_method_24_code 6 (some .int) 5 115 15 [(0, .ref b0), (1, .int b1), (2, .int b2), (3, .int b3), (4, .int b4)] [] h (some (.int r)) h') (b0 : Nat) (b1 : Int32) (b2 : Int32) (b3 : Int32) (b4 : Int32) (h : mH) (r : Int32) (h' : mH) (hf : f_Realm_eachForHimself_51 rec4 rec15 b0 b1 b2 b3 b4 h = some (r, h')) : G sc y_Realm_eachForHimself prog_5_method_24_code 6 (some .int) 5 115 51 [(0, .ref b0), (1, .int b1), (2, .int b2), (3, .int b3), (4, .int b4)] [] h (some (.int r)) h' := by
  unfold f_Realm_eachForHimself_51 at hf
  refine g_iinc (pc := 51) 4 (b4 + (1 : Int32)) [(4, .int (b4 + (1 : Int32))), (0, .ref b0), (1, .int b1), (2, .int b2), (3, .int b3)] dd_Realm_eachForHimself_42.2.2.2.2.1 rfl rfl (Nat.le_of_ble_eq_true rfl) rfl ?_
  refine g_goto (pc := 54) 15 dd_Realm_eachForHimself_42.2.2.2.2.2.1 (by decide) ?_
  refine g_lv [1, 2, 3, 4, 0] rfl ?_
  exact hrec15 _ _ _ _ _ _ _ _  hf
def f_Realm_eachForHimself_15b (rec4 : Nat → Int32 → Int32 → mH → Option (Int32 × mH)) (rec15 : Nat → Int32 → Int32 → Int32 → Int32 → mH → Option (Int32 × mH)) (b0 : Nat) (b1 : Int32) (b2 : Int32) (b3 : Int32) (b4 : Int32) (h : mH) : Option (Int32 × mH) :=
  bd1 (gI h b0 4 1) fun x2 =>
  if x2 ≤ b4 then
    if b1 = b3 then
      f_Realm_eachForHimself_71  b1 h
    else
      rec4 b0 b1 (b2 + (1 : Int32)) h
  else
    bd1 (kC h b0 4) fun _ =>
    bd2 (f_Realm_mostNeeded b0 b4 h) fun x9 h7 =>
    if x9 = ((-4) : Int32) then
      f_Realm_eachForHimself_51 rec4 rec15 b0 b1 b2 b3 b4 h7
    else
      bd1 (kC h7 b0 4) fun _ =>
      bd2 (f_Realm_mark b0 b4 x9 h7) fun x14 h12 =>
      f_Realm_eachForHimself_51 rec4 rec15 b0 (b1 + (1 : Int32)) b2 b3 b4 h12
set_option maxRecDepth 20000 in
theorem t_Realm_eachForHimself_15b {sc : Nat × (Nat → Int32)} (rec4 : Nat → Int32 → Int32 → mH → Option (Int32 × mH)) (hrec4 : ∀ (b0 : Nat) (b1 : Int32) (b2 : Int32) (h : mH) (r : Int32) (h' : mH), rec4 b0 b1 b2 h = some (r, h') → G sc y_Realm_eachForHimself prog_5_method_24_code 6 (some .int) 5 115 4 [(0, .ref b0), (1, .int b1), (2, .int b2)] [] h (some (.int r)) h') (rec15 : Nat → Int32 → Int32 → Int32 → Int32 → mH → Option (Int32 × mH)) (hrec15 : ∀ (b0 : Nat) (b1 : Int32) (b2 : Int32) (b3 : Int32) (b4 : Int32) (h : mH) (r : Int32) (h' : mH), rec15 b0 b1 b2 b3 b4 h = some (r, h') → G sc y_Realm_eachForHimself prog_5_method_24_code 6 (some .int) 5 115 15 [(0, .ref b0), (1, .int b1), (2, .int b2), (3, .int b3), (4, .int b4)] [] h (some (.int r)) h') (b0 : Nat) (b1 : Int32) (b2 : Int32) (b3 : Int32) (b4 : Int32) (h : mH) (r : Int32) (h' : mH) (hf : f_Realm_eachForHimself_15b rec4 rec15 b0 b1 b2 b3 b4 h = some (r, h')) : G sc y_Realm_eachForHimself prog_5_method_24_code 6 (some .int) 5 115 15 [(0, .ref b0), (1, .int b1), (2, .int b2), (3, .int b3), (4, .int b4)] [] h (some (.int r)) h' := by
  unfold f_Realm_eachForHimself_15b at hf
  refine g_iload (pc := 15) 4 dd_Realm_eachForHimself_0.2.2.2.2.2.2.2.2.2.2.2.1 rfl ?_
  refine g_aload_n (pc := 17) 0 dd_Realm_eachForHimself_0.2.2.2.2.2.2.2.2.2.2.2.2.1 rfl rfl ?_
  obtain ⟨x2, e3, hf⟩ := bd1_e hf
  refine g_get (pc := 18) (ci := 4) (kk := 1) dd_Realm_eachForHimself_0.2.2.2.2.2.2.2.2.2.2.2.2.2.1 rfl in_Realm (by decide) wd_98 (gI_spec e3) ?_
  refine g_icmpge (pc := 21) 57 dd_Realm_eachForHimself_0.2.2.2.2.2.2.2.2.2.2.2.2.2.2.1 (by decide) (fun c16 => ?_) (fun c16 => ?_)
  · replace hf := (if_pos c16).symm.trans hf
    refine g_iload_n (pc := 57) 1 dd_Realm_eachForHimself_42.2.2.2.2.2.2.1 rfl rfl ?_
    refine g_iload_n (pc := 58) 3 dd_Realm_eachForHimself_42.2.2.2.2.2.2.2.1 rfl rfl ?_
    refine g_icmpne (pc := 59) 65 dd_Realm_eachForHimself_42.2.2.2.2.2.2.2.2.1 (by decide) (fun c4 => ?_) (fun c4 => ?_)
    · replace hf := (if_neg c4).symm.trans hf
      refine g_iinc (pc := 65) 2 (b2 + (1 : Int32)) [(2, .int (b2 + (1 : Int32))), (0, .ref b0), (1, .int b1), (3, .int b3), (4, .int b4)] dd_Realm_eachForHimself_42.2.2.2.2.2.2.2.2.2.2.1 rfl rfl (Nat.le_of_ble_eq_true rfl) rfl ?_
      refine g_goto (pc := 68) 4 dd_Realm_eachForHimself_42.2.2.2.2.2.2.2.2.2.2.2.1 (by decide) ?_
      refine g_lv [1, 2, 0] rfl ?_
      exact hrec4 _ _ _ _ _ _  hf
    · replace hf := (if_pos c4).symm.trans hf
      refine g_goto (pc := 62) 71 dd_Realm_eachForHimself_42.2.2.2.2.2.2.2.2.2.1 (by decide) ?_
      refine g_lv [1] rfl ?_
      exact t_Realm_eachForHimself_71  _ _ _ _  hf
  · replace hf := (if_neg c16).symm.trans hf
    refine g_aload_n (pc := 24) 0 dd_Realm_eachForHimself_0.2.2.2.2.2.2.2.2.2.2.2.2.2.2.2.1 rfl rfl ?_
    refine g_iload (pc := 25) 4 dd_Realm_eachForHimself_0.2.2.2.2.2.2.2.2.2.2.2.2.2.2.2.2.1 rfl ?_
    obtain ⟨u6, e5, hf⟩ := bd1_e hf
    obtain ⟨x9, h7, e8, hf⟩ := bd2_e hf
    refine g_callV (pc := 27) (ci := 4) [.int b4] (site_of si_Realm_mostNeeded (by decide) (by decide)) wd_736 wd_737 wd_738 dd_Realm_eachForHimself_0.2.2.2.2.2.2.2.2.2.2.2.2.2.2.2.2.2.1 rfl e5 (Nat.le_of_ble_eq_true rfl) (fun z => absurd z si_na_Realm_mostNeeded) (fun z => absurd z si_na_Realm_mostNeeded) (fun z => absurd z si_na_Realm_mostNeeded) (c_Realm_mostNeeded e8) rfl ?_
    refine g_st [.int x9] rfl ?_
    refine g_istore (pc := 30) [(5, .int x9), (0, .ref b0), (1, .int b1), (2, .int b2), (3, .int b3), (4, .int b4)] dd_Realm_eachForHimself_0.2.2.2.2.2.2.2.2.2.2.2.2.2.2.2.2.2.2.1 (Nat.le_of_ble_eq_true rfl) rfl ?_
    refine g_iload (pc := 32) 0 dd_Realm_eachForHimself_0.2.2.2.2.2.2.2.2.2.2.2.2.2.2.2.2.2.2.2.1 rfl ?_
    refine g_bipush (pc := 34) ((-4) : Int32) dd_Realm_eachForHimself_0.2.2.2.2.2.2.2.2.2.2.2.2.2.2.2.2.2.2.2.2.1 (by decide) ?_
    refine g_icmpeq (pc := 36) 51 dd_Realm_eachForHimself_0.2.2.2.2.2.2.2.2.2.2.2.2.2.2.2.2.2.2.2.2.2.1 (by decide) (fun c15 => ?_) (fun c15 => ?_)
    · replace hf := (if_pos c15).symm.trans hf
      refine g_lv [1, 2, 3, 4, 5] rfl ?_
      exact t_Realm_eachForHimself_51 rec4 hrec4 rec15 hrec15 _ _ _ _ _ _ _ _  hf
    · replace hf := (if_neg c15).symm.trans hf
      refine g_aload_n (pc := 39) 1 dd_Realm_eachForHimself_0.2.2.2.2.2.2.2.2.2.2.2.2.2.2.2.2.2.2.2.2.2.2.1 rfl rfl ?_
      refine g_iload (pc := 40) 5 dd_Realm_eachForHimself_0.2.2.2.2.2.2.2.2.2.2.2.2.2.2.2.2.2.2.2.2.2.2.2 rfl ?_
      refine g_iload (pc := 42) 0 dd_Realm_eachForHimself_42.1 rfl ?_
      obtain ⟨u11, e10, hf⟩ := bd1_e hf
      obtain ⟨x14, h12, e13, hf⟩ := bd2_e hf
      refine g_callV (pc := 44) (ci := 4) [.int b4, .int x9] (site_of si_Realm_mark (by decide) (by decide)) wd_630 wd_631 wd_632 dd_Realm_eachForHimself_42.2.1 rfl e10 (Nat.le_of_ble_eq_true rfl) (fun z => absurd z si_na_Realm_mark) (fun z => absurd z si_na_Realm_mark) (fun z => absurd z si_na_Realm_mark) (c_Realm_mark e13) rfl ?_
      refine g_st [.int x14] rfl ?_
      refine g_pop (pc := 47) dd_Realm_eachForHimself_42.2.2.1 rfl ?_
      refine g_iinc (pc := 48) 2 (b1 + (1 : Int32)) [(1, .int (b1 + (1 : Int32))), (5, .int x9), (0, .ref b0), (2, .int b2), (3, .int b3), (4, .int b4)] dd_Realm_eachForHimself_42.2.2.2.1 rfl rfl (Nat.le_of_ble_eq_true rfl) rfl ?_
      refine g_lv [2, 0, 3, 4, 5] rfl ?_
      exact t_Realm_eachForHimself_51 rec4 hrec4 rec15 hrec15 _ _ _ _ _ _ _ _  hf
def f_Realm_eachForHimself_15 (rec4 : Nat → Int32 → Int32 → mH → Option (Int32 × mH)) : Nat → Nat → Int32 → Int32 → Int32 → Int32 → mH → Option (Int32 × mH)
  | 0 => fun _ _ _ _ _ _ => none
  | n + 1 => f_Realm_eachForHimself_15b rec4 (f_Realm_eachForHimself_15 rec4 n)
theorem t_Realm_eachForHimself_15 {sc : Nat × (Nat → Int32)} (rec4 : Nat → Int32 → Int32 → mH → Option (Int32 × mH)) (hrec4 : ∀ (b0 : Nat) (b1 : Int32) (b2 : Int32) (h : mH) (r : Int32) (h' : mH), rec4 b0 b1 b2 h = some (r, h') → G sc y_Realm_eachForHimself prog_5_method_24_code 6 (some .int) 5 115 4 [(0, .ref b0), (1, .int b1), (2, .int b2)] [] h (some (.int r)) h') : ∀ (n : Nat) (b0 : Nat) (b1 : Int32) (b2 : Int32) (b3 : Int32) (b4 : Int32) (h : mH) (r : Int32) (h' : mH) (hf : f_Realm_eachForHimself_15 rec4 n b0 b1 b2 b3 b4 h = some (r, h')), G sc y_Realm_eachForHimself prog_5_method_24_code 6 (some .int) 5 115 15 [(0, .ref b0), (1, .int b1), (2, .int b2), (3, .int b3), (4, .int b4)] [] h (some (.int r)) h'
  | 0, _, _, _, _, _, _, _, _, hf => by cases hf
  | n + 1, _, _, _, _, _, _, _, _, hf => t_Realm_eachForHimself_15b rec4 hrec4 (f_Realm_eachForHimself_15 rec4 n) (t_Realm_eachForHimself_15 rec4 hrec4 n) _ _ _ _ _ _ _ _ hf
def f_Realm_eachForHimself_4b (rec4 : Nat → Int32 → Int32 → mH → Option (Int32 × mH)) (b0 : Nat) (b1 : Int32) (b2 : Int32) (h : mH) : Option (Int32 × mH) :=
  if (15 : Int32) < b2 then
    f_Realm_eachForHimself_71  b1 h
  else
    f_Realm_eachForHimself_15 rec4 FU b0 b1 b2 b1 (0 : Int32) h
set_option maxRecDepth 20000 in
theorem t_Realm_eachForHimself_4b {sc : Nat × (Nat → Int32)} (rec4 : Nat → Int32 → Int32 → mH → Option (Int32 × mH)) (hrec4 : ∀ (b0 : Nat) (b1 : Int32) (b2 : Int32) (h : mH) (r : Int32) (h' : mH), rec4 b0 b1 b2 h = some (r, h') → G sc y_Realm_eachForHimself prog_5_method_24_code 6 (some .int) 5 115 4 [(0, .ref b0), (1, .int b1), (2, .int b2)] [] h (some (.int r)) h') (b0 : Nat) (b1 : Int32) (b2 : Int32) (h : mH) (r : Int32) (h' : mH) (hf : f_Realm_eachForHimself_4b rec4 b0 b1 b2 h = some (r, h')) : G sc y_Realm_eachForHimself prog_5_method_24_code 6 (some .int) 5 115 4 [(0, .ref b0), (1, .int b1), (2, .int b2)] [] h (some (.int r)) h' := by
  unfold f_Realm_eachForHimself_4b at hf
  refine g_iload_n (pc := 4) 2 dd_Realm_eachForHimself_0.2.2.2.2.1 rfl rfl ?_
  refine g_bipush (pc := 5) (15 : Int32) dd_Realm_eachForHimself_0.2.2.2.2.2.1 (by decide) ?_
  refine g_icmpgt (pc := 7) 71 dd_Realm_eachForHimself_0.2.2.2.2.2.2.1 (by decide) (fun c1 => ?_) (fun c1 => ?_)
  · replace hf := (if_pos c1).symm.trans hf
    refine g_lv [1] rfl ?_
    exact t_Realm_eachForHimself_71  _ _ _ _  hf
  · replace hf := (if_neg c1).symm.trans hf
    refine g_iload_n (pc := 10) 1 dd_Realm_eachForHimself_0.2.2.2.2.2.2.2.1 rfl rfl ?_
    refine g_istore_n (pc := 11) [(3, .int b1), (0, .ref b0), (1, .int b1), (2, .int b2)] dd_Realm_eachForHimself_0.2.2.2.2.2.2.2.2.1 rfl (Nat.le_of_ble_eq_true rfl) rfl ?_
    refine g_iconst (pc := 12) (0 : Int32) dd_Realm_eachForHimself_0.2.2.2.2.2.2.2.2.2.1 (by decide) ?_
    refine g_istore (pc := 13) [(4, .int (0 : Int32)), (3, .int b1), (0, .ref b0), (1, .int b1), (2, .int b2)] dd_Realm_eachForHimself_0.2.2.2.2.2.2.2.2.2.2.1 (Nat.le_of_ble_eq_true rfl) rfl ?_
    refine g_lv [2, 3, 4, 1, 0] rfl ?_
    exact t_Realm_eachForHimself_15 rec4 hrec4 FU _ _ _ _ _ _ _ _  hf
def f_Realm_eachForHimself_4  : Nat → Nat → Int32 → Int32 → mH → Option (Int32 × mH)
  | 0 => fun _ _ _ _ => none
  | n + 1 => f_Realm_eachForHimself_4b  (f_Realm_eachForHimself_4  n)
theorem t_Realm_eachForHimself_4 {sc : Nat × (Nat → Int32)}  : ∀ (n : Nat) (b0 : Nat) (b1 : Int32) (b2 : Int32) (h : mH) (r : Int32) (h' : mH) (hf : f_Realm_eachForHimself_4  n b0 b1 b2 h = some (r, h')), G sc y_Realm_eachForHimself prog_5_method_24_code 6 (some .int) 5 115 4 [(0, .ref b0), (1, .int b1), (2, .int b2)] [] h (some (.int r)) h'
  | 0, _, _, _, _, _, _, hf => by cases hf
  | n + 1, _, _, _, _, _, _, hf => t_Realm_eachForHimself_4b  (f_Realm_eachForHimself_4  n) (t_Realm_eachForHimself_4  n) _ _ _ _ _ _ hf
def f_Realm_eachForHimself_0  (a0 : Nat) (h : mH) : Option (Int32 × mH) :=
  f_Realm_eachForHimself_4  FU a0 (0 : Int32) (0 : Int32) h
set_option maxRecDepth 20000 in
theorem t_Realm_eachForHimself_0 {sc : Nat × (Nat → Int32)}  (a0 : Nat) (h : mH) (r : Int32) (h' : mH) (hf : f_Realm_eachForHimself_0  a0 h = some (r, h')) : G sc y_Realm_eachForHimself prog_5_method_24_code 6 (some .int) 5 115 0 [(0, .ref a0)] [] h (some (.int r)) h' := by
  unfold f_Realm_eachForHimself_0 at hf
  refine g_iconst (pc := 0) (0 : Int32) dd_Realm_eachForHimself_0.1 (by decide) ?_
  refine g_istore_n (pc := 1) [(1, .int (0 : Int32)), (0, .ref a0)] dd_Realm_eachForHimself_0.2.1 rfl (Nat.le_of_ble_eq_true rfl) rfl ?_
  refine g_iconst (pc := 2) (0 : Int32) dd_Realm_eachForHimself_0.2.2.1 (by decide) ?_
  refine g_istore_n (pc := 3) [(2, .int (0 : Int32)), (1, .int (0 : Int32)), (0, .ref a0)] dd_Realm_eachForHimself_0.2.2.2.1 rfl (Nat.le_of_ble_eq_true rfl) rfl ?_
  refine g_lv [2, 1, 0] rfl ?_
  exact t_Realm_eachForHimself_4  FU _ _ _ _ _ _  hf
def f_Realm_eachForHimself (a0 : Nat) (h : mH) : Option (Int32 × mH) := f_Realm_eachForHimself_0 a0 h
theorem c_Realm_eachForHimself {sc : Nat × (Nat → Int32)} {a0 : Nat} {h : mH} {r : Int32} {h' : mH} (hf : f_Realm_eachForHimself a0 h = some (r, h')) : MM sc y_Realm_eachForHimself prog_5_method_24_code 6 (some .int) 5 115 [.ref a0] h (some (.int r)) h' :=
  mm_of_G si_pn_Realm (Nat.le_of_ble_eq_true rfl) (t_Realm_eachForHimself_0 _ _ _ _ hf)
/-! Realm met ()I -/
set_option maxRecDepth 100000 in
theorem dd_Realm_met_0 : (decode prog_5_method_23_code 0 = .ok (.iconst 0, 1)) ∧ (decode prog_5_method_23_code 1 = .ok (.istore_n 1, 1)) ∧ (decode prog_5_method_23_code 2 = .ok (.iconst 0, 1)) ∧ (decode prog_5_method_23_code 3 = .ok (.istore_n 2, 1)) ∧ (decode prog_5_method_23_code 4 = .ok (.iload_n 2, 1)) ∧ (decode prog_5_method_23_code 5 = .ok (.aload_n 0, 1)) ∧ (decode prog_5_method_23_code 6 = .ok (.getfield 55, 3)) ∧ (decode prog_5_method_23_code 9 = .ok (.if_icmp .ge 27, 3)) ∧ (decode prog_5_method_23_code 12 = .ok (.iload_n 1, 1)) ∧ (decode prog_5_method_23_code 13 = .ok (.aload_n 0, 1)) ∧ (decode prog_5_method_23_code 14 = .ok (.iload_n 2, 1)) ∧ (decode prog_5_method_23_code 15 = .ok (.invokevirtual 117, 3)) ∧ (decode prog_5_method_23_code 18 = .ok (.ifCond .ne 9, 3)) ∧ (decode prog_5_method_23_code 21 = .ok (.iconst 1, 1)) ∧ (decode prog_5_method_23_code 22 = .ok (.iload_n 2, 1)) ∧ (decode prog_5_method_23_code 23 = .ok (.ishl, 1)) ∧ (decode prog_5_method_23_code 24 = .ok (.goto 4, 3)) ∧ (decode prog_5_method_23_code 27 = .ok (.iconst 0, 1)) ∧ (decode prog_5_method_23_code 28 = .ok (.ior, 1)) ∧ (decode prog_5_method_23_code 29 = .ok (.istore_n 1, 1)) ∧ (decode prog_5_method_23_code 30 = .ok (.iinc 2 1, 3)) ∧ (decode prog_5_method_23_code 33 = .ok (.goto (-29), 3)) ∧ (decode prog_5_method_23_code 36 = .ok (.iload_n 1, 1)) ∧ (decode prog_5_method_23_code 37 = .ok (.aload_n 0, 1)) := by
  have h : List.drop 0 prog_5_method_23_code.data.toList = 0x03 :: _ := rfl
  refine ⟨zq_k_n 3 h rfl (zq_o_3 _), ?_⟩
  replace h := zq_nx1 (q := 1) h rfl
  refine ⟨zq_k_n 60 h rfl (zq_o_60 _), ?_⟩
  replace h := zq_nx1 (q := 2) h rfl
  refine ⟨zq_k_n 3 h rfl (zq_o_3 _), ?_⟩
  replace h := zq_nx1 (q := 3) h rfl
  refine ⟨zq_k_n 61 h rfl (zq_o_61 _), ?_⟩
  replace h := zq_nx1 (q := 4) h rfl
  refine ⟨zq_k_n 28 h rfl (zq_o_28 _), ?_⟩
  replace h := zq_nx1 (q := 5) h rfl
  refine ⟨zq_k_n 42 h rfl (zq_o_42 _), ?_⟩
  replace h := zq_nx1 (q := 6) h rfl
  refine ⟨zq_k_u2 180 (fun z => .getfield z) 55 h rfl (zq_o_180 _) (by decide +kernel), ?_⟩
  replace h := zq_nx3 (q := 9) h rfl
  refine ⟨zq_k_s2 162 (fun z => .if_icmp .ge z) 27 h rfl (zq_o_162 _) (by decide +kernel), ?_⟩
  replace h := zq_nx3 (q := 12) h rfl
  refine ⟨zq_k_n 27 h rfl (zq_o_27 _), ?_⟩
  replace h := zq_nx1 (q := 13) h rfl
  refine ⟨zq_k_n 42 h rfl (zq_o_42 _), ?_⟩
  replace h := zq_nx1 (q := 14) h rfl
  refine ⟨zq_k_n 28 h rfl (zq_o_28 _), ?_⟩
  replace h := zq_nx1 (q := 15) h rfl
  refine ⟨zq_k_u2 182 (fun z => .invokevirtual z) 117 h rfl (zq_o_182 _) (by decide +kernel), ?_⟩
  replace h := zq_nx3 (q := 18) h rfl
  refine ⟨zq_k_s2 154 (fun z => .ifCond .ne z) 9 h rfl (zq_o_154 _) (by decide +kernel), ?_⟩
  replace h := zq_nx3 (q := 21) h rfl
  refine ⟨zq_k_n 4 h rfl (zq_o_4 _), ?_⟩
  replace h := zq_nx1 (q := 22) h rfl
  refine ⟨zq_k_n 28 h rfl (zq_o_28 _), ?_⟩
  replace h := zq_nx1 (q := 23) h rfl
  refine ⟨zq_k_n 120 h rfl (zq_o_120 _), ?_⟩
  replace h := zq_nx1 (q := 24) h rfl
  refine ⟨zq_k_s2 167 (fun z => .goto z) 4 h rfl (zq_o_167 _) (by decide +kernel), ?_⟩
  replace h := zq_nx3 (q := 27) h rfl
  refine ⟨zq_k_n 3 h rfl (zq_o_3 _), ?_⟩
  replace h := zq_nx1 (q := 28) h rfl
  refine ⟨zq_k_n 128 h rfl (zq_o_128 _), ?_⟩
  replace h := zq_nx1 (q := 29) h rfl
  refine ⟨zq_k_n 60 h rfl (zq_o_60 _), ?_⟩
  replace h := zq_nx1 (q := 30) h rfl
  refine ⟨zq_k_iinc 2 1 h rfl (zq_o_132 _) (by decide +kernel) (by decide +kernel), ?_⟩
  replace h := zq_nx3 (q := 33) h rfl
  refine ⟨zq_k_s2 167 (fun z => .goto z) (-29) h rfl (zq_o_167 _) (by decide +kernel), ?_⟩
  replace h := zq_nx3 (q := 36) h rfl
  refine ⟨zq_k_n 27 h rfl (zq_o_27 _), ?_⟩
  replace h := zq_nx1 (q := 37) h rfl
  exact zq_k_n 42 h rfl (zq_o_42 _)
set_option maxRecDepth 100000 in
theorem dd_Realm_met_38 : (decode prog_5_method_23_code 38 = .ok (.getfield 68, 3)) ∧ (decode prog_5_method_23_code 41 = .ok (.iand, 1)) ∧ (decode prog_5_method_23_code 42 = .ok (.ireturn, 1)) := by
  have h : List.drop 38 prog_5_method_23_code.data.toList = 0xb4 :: _ := rfl
  refine ⟨zq_k_u2 180 (fun z => .getfield z) 68 h rfl (zq_o_180 _) (by decide +kernel), ?_⟩
  replace h := zq_nx3 (q := 41) h rfl
  refine ⟨zq_k_n 126 h rfl (zq_o_126 _), ?_⟩
  replace h := zq_nx1 (q := 42) h rfl
  exact zq_k_n 172 h rfl (zq_o_172 _)
def f_Realm_met_28 (rec4 : Nat → Int32 → Int32 → mH → Option (Int32 × mH)) (b0 : Nat) (b2 : Int32) (s0 : Int32) (s1 : Int32) (h : mH) : Option (Int32 × mH) :=
  rec4 b0 (s0 ||| s1) (b2 + (1 : Int32)) h
set_option maxRecDepth 20000 in
theorem t_Realm_met_28 {sc : Nat × (Nat → Int32)} (rec4 : Nat → Int32 → Int32 → mH → Option (Int32 × mH)) (hrec4 : ∀ (b0 : Nat) (b1 : Int32) (b2 : Int32) (h : mH) (r : Int32) (h' : mH), rec4 b0 b1 b2 h = some (r, h') → G sc y_Realm_met prog_5_method_23_code 3 (some .int) 2 45 4 [(0, .ref b0), (1, .int b1), (2, .int b2)] [] h (some (.int r)) h') (b0 : Nat) (b2 : Int32) (s0 : Int32) (s1 : Int32) (h : mH) (r : Int32) (h' : mH) (hf : f_Realm_met_28 rec4 b0 b2 s0 s1 h = some (r, h')) : G sc y_Realm_met prog_5_method_23_code 3 (some .int) 2 45 28 [(0, .ref b0), (2, .int b2)] [.int s1, .int s0] h (some (.int r)) h' := by
  unfold f_Realm_met_28 at hf
  refine g_ior (pc := 28) dd_Realm_met_0.2.2.2.2.2.2.2.2.2.2.2.2.2.2.2.2.2.2.1 ?_
  refine g_istore_n (pc := 29) [(1, .int (s0 ||| s1)), (0, .ref b0), (2, .int b2)] dd_Realm_met_0.2.2.2.2.2.2.2.2.2.2.2.2.2.2.2.2.2.2.2.1 rfl (Nat.le_of_ble_eq_true rfl) rfl ?_
  refine g_iinc (pc := 30) 2 (b2 + (1 : Int32)) [(2, .int (b2 + (1 : Int32))), (1, .int (s0 ||| s1)), (0, .ref b0)] dd_Realm_met_0.2.2.2.2.2.2.2.2.2.2.2.2.2.2.2.2.2.2.2.2.1 rfl rfl (Nat.le_of_ble_eq_true rfl) rfl ?_
  refine g_goto (pc := 33) 4 dd_Realm_met_0.2.2.2.2.2.2.2.2.2.2.2.2.2.2.2.2.2.2.2.2.2.1 (by decide) ?_
  refine g_lv [2, 1, 0] rfl ?_
  exact hrec4 _ _ _ _ _ _  hf
def f_Realm_met_4b (rec4 : Nat → Int32 → Int32 → mH → Option (Int32 × mH)) (b0 : Nat) (b1 : Int32) (b2 : Int32) (h : mH) : Option (Int32 × mH) :=
  bd1 (gI h b0 4 0) fun x1 =>
  if x1 ≤ b2 then
    bd1 (gI h b0 4 4) fun x3 =>
    some (b1 &&& x3, h)
  else
    bd1 (kC h b0 4) fun _ =>
    bd2 (f_Realm_needOf b0 b2 h) fun x9 h7 =>
    if x9 = 0 then
      f_Realm_met_28 rec4 b0 b2 b1 ((1 : Int32) <<< (b2 &&& 31)) h7
    else
      f_Realm_met_28 rec4 b0 b2 b1 (0 : Int32) h7
set_option maxRecDepth 20000 in
theorem t_Realm_met_4b {sc : Nat × (Nat → Int32)} (rec4 : Nat → Int32 → Int32 → mH → Option (Int32 × mH)) (hrec4 : ∀ (b0 : Nat) (b1 : Int32) (b2 : Int32) (h : mH) (r : Int32) (h' : mH), rec4 b0 b1 b2 h = some (r, h') → G sc y_Realm_met prog_5_method_23_code 3 (some .int) 2 45 4 [(0, .ref b0), (1, .int b1), (2, .int b2)] [] h (some (.int r)) h') (b0 : Nat) (b1 : Int32) (b2 : Int32) (h : mH) (r : Int32) (h' : mH) (hf : f_Realm_met_4b rec4 b0 b1 b2 h = some (r, h')) : G sc y_Realm_met prog_5_method_23_code 3 (some .int) 2 45 4 [(0, .ref b0), (1, .int b1), (2, .int b2)] [] h (some (.int r)) h' := by
  unfold f_Realm_met_4b at hf
  refine g_iload_n (pc := 4) 2 dd_Realm_met_0.2.2.2.2.1 rfl rfl ?_
  refine g_aload_n (pc := 5) 0 dd_Realm_met_0.2.2.2.2.2.1 rfl rfl ?_
  obtain ⟨x1, e2, hf⟩ := bd1_e hf
  refine g_get (pc := 6) (ci := 4) (kk := 0) dd_Realm_met_0.2.2.2.2.2.2.1 rfl in_Realm (by decide) wd_93 (gI_spec e2) ?_
  refine g_icmpge (pc := 9) 36 dd_Realm_met_0.2.2.2.2.2.2.2.1 (by decide) (fun c11 => ?_) (fun c11 => ?_)
  · replace hf := (if_pos c11).symm.trans hf
    refine g_iload_n (pc := 36) 1 dd_Realm_met_0.2.2.2.2.2.2.2.2.2.2.2.2.2.2.2.2.2.2.2.2.2.2.1 rfl rfl ?_
    refine g_aload_n (pc := 37) 0 dd_Realm_met_0.2.2.2.2.2.2.2.2.2.2.2.2.2.2.2.2.2.2.2.2.2.2.2 rfl rfl ?_
    obtain ⟨x3, e4, hf⟩ := bd1_e hf
    refine g_get (pc := 38) (ci := 4) (kk := 4) dd_Realm_met_38.1 rfl in_Realm (by decide) wd_107 (gI_spec e4) ?_
    refine g_iand (pc := 41) dd_Realm_met_38.2.1 ?_
    obtain ⟨rfl, rfl⟩ := ret2 hf
    exact g_iret (pc := 42) rfl dd_Realm_met_38.2.2
  · replace hf := (if_neg c11).symm.trans hf
    refine g_iload_n (pc := 12) 1 dd_Realm_met_0.2.2.2.2.2.2.2.2.1 rfl rfl ?_
    refine g_aload_n (pc := 13) 0 dd_Realm_met_0.2.2.2.2.2.2.2.2.2.1 rfl rfl ?_
    refine g_iload_n (pc := 14) 2 dd_Realm_met_0.2.2.2.2.2.2.2.2.2.2.1 rfl rfl ?_
    obtain ⟨u6, e5, hf⟩ := bd1_e hf
    obtain ⟨x9, h7, e8, hf⟩ := bd2_e hf
    refine g_callV (pc := 15) (ci := 4) [.int b2] (site_of si_Realm_needOf (by decide) (by decide)) wd_646 wd_521 wd_522 dd_Realm_met_0.2.2.2.2.2.2.2.2.2.2.2.1 rfl e5 (Nat.le_of_ble_eq_true rfl) (fun z => absurd z si_na_Realm_needOf) (fun z => absurd z si_na_Realm_needOf) (fun z => absurd z si_na_Realm_needOf) (c_Realm_needOf e8) rfl ?_
    refine g_st [.int x9, .int b1] rfl ?_
    refine g_ifne (pc := 18) 27 dd_Realm_met_0.2.2.2.2.2.2.2.2.2.2.2.2.1 (by decide) (fun c10 => ?_) (fun c10 => ?_)
    · replace hf := (if_neg c10).symm.trans hf
      refine g_iconst (pc := 27) (0 : Int32) dd_Realm_met_0.2.2.2.2.2.2.2.2.2.2.2.2.2.2.2.2.2.1 (by decide) ?_
      refine g_lv [0, 2] rfl ?_
      exact t_Realm_met_28 rec4 hrec4 _ _ _ _ _ _ _  hf
    · replace hf := (if_pos c10).symm.trans hf
      refine g_iconst (pc := 21) (1 : Int32) dd_Realm_met_0.2.2.2.2.2.2.2.2.2.2.2.2.2.1 (by decide) ?_
      refine g_iload_n (pc := 22) 2 dd_Realm_met_0.2.2.2.2.2.2.2.2.2.2.2.2.2.2.1 rfl rfl ?_
      refine g_ishl (pc := 23) dd_Realm_met_0.2.2.2.2.2.2.2.2.2.2.2.2.2.2.2.1 ?_
      refine g_goto (pc := 24) 28 dd_Realm_met_0.2.2.2.2.2.2.2.2.2.2.2.2.2.2.2.2.1 (by decide) ?_
      refine g_lv [0, 2] rfl ?_
      exact t_Realm_met_28 rec4 hrec4 _ _ _ _ _ _ _  hf
def f_Realm_met_4  : Nat → Nat → Int32 → Int32 → mH → Option (Int32 × mH)
  | 0 => fun _ _ _ _ => none
  | n + 1 => f_Realm_met_4b  (f_Realm_met_4  n)
theorem t_Realm_met_4 {sc : Nat × (Nat → Int32)}  : ∀ (n : Nat) (b0 : Nat) (b1 : Int32) (b2 : Int32) (h : mH) (r : Int32) (h' : mH) (hf : f_Realm_met_4  n b0 b1 b2 h = some (r, h')), G sc y_Realm_met prog_5_method_23_code 3 (some .int) 2 45 4 [(0, .ref b0), (1, .int b1), (2, .int b2)] [] h (some (.int r)) h'
  | 0, _, _, _, _, _, _, hf => by cases hf
  | n + 1, _, _, _, _, _, _, hf => t_Realm_met_4b  (f_Realm_met_4  n) (t_Realm_met_4  n) _ _ _ _ _ _ hf
def f_Realm_met_0  (a0 : Nat) (h : mH) : Option (Int32 × mH) :=
  f_Realm_met_4  FU a0 (0 : Int32) (0 : Int32) h
set_option maxRecDepth 20000 in
theorem t_Realm_met_0 {sc : Nat × (Nat → Int32)}  (a0 : Nat) (h : mH) (r : Int32) (h' : mH) (hf : f_Realm_met_0  a0 h = some (r, h')) : G sc y_Realm_met prog_5_method_23_code 3 (some .int) 2 45 0 [(0, .ref a0)] [] h (some (.int r)) h' := by
  unfold f_Realm_met_0 at hf
  refine g_iconst (pc := 0) (0 : Int32) dd_Realm_met_0.1 (by decide) ?_
  refine g_istore_n (pc := 1) [(1, .int (0 : Int32)), (0, .ref a0)] dd_Realm_met_0.2.1 rfl (Nat.le_of_ble_eq_true rfl) rfl ?_
  refine g_iconst (pc := 2) (0 : Int32) dd_Realm_met_0.2.2.1 (by decide) ?_
  refine g_istore_n (pc := 3) [(2, .int (0 : Int32)), (1, .int (0 : Int32)), (0, .ref a0)] dd_Realm_met_0.2.2.2.1 rfl (Nat.le_of_ble_eq_true rfl) rfl ?_
  refine g_lv [2, 1, 0] rfl ?_
  exact t_Realm_met_4  FU _ _ _ _ _ _  hf
def f_Realm_met (a0 : Nat) (h : mH) : Option (Int32 × mH) := f_Realm_met_0 a0 h
theorem c_Realm_met {sc : Nat × (Nat → Int32)} {a0 : Nat} {h : mH} {r : Int32} {h' : mH} (hf : f_Realm_met a0 h = some (r, h')) : MM sc y_Realm_met prog_5_method_23_code 3 (some .int) 2 45 [.ref a0] h (some (.int r)) h' :=
  mm_of_G si_pn_Realm (Nat.le_of_ble_eq_true rfl) (t_Realm_met_0 _ _ _ _ hf)
/-! Q selfish (I)I -/
set_option maxRecDepth 100000 in
theorem dd_Q_selfish_0 : (decode prog_1_method_26_code 0 = .ok (.iload_n 1, 1)) ∧ (decode prog_1_method_26_code 1 = .ok (.iconst 0, 1)) ∧ (decode prog_1_method_26_code 2 = .ok (.iconst 2, 1)) ∧ (decode prog_1_method_26_code 3 = .ok (.invokestatic 62, 3)) ∧ (decode prog_1_method_26_code 6 = .ok (.ifCond .ne 5, 3)) ∧ (decode prog_1_method_26_code 9 = .ok (.iconst (-1), 1)) ∧ (decode prog_1_method_26_code 10 = .ok (.ireturn, 1)) ∧ (decode prog_1_method_26_code 11 = .ok (.aload_n 0, 1)) ∧ (decode prog_1_method_26_code 12 = .ok (.getfield 23, 3)) ∧ (decode prog_1_method_26_code 15 = .ok (.aload_n 0, 1)) ∧ (decode prog_1_method_26_code 16 = .ok (.getfield 19, 3)) ∧ (decode prog_1_method_26_code 19 = .ok (.invokevirtual 81, 3)) ∧ (decode prog_1_method_26_code 22 = .ok (.aload_n 0, 1)) ∧ (decode prog_1_method_26_code 23 = .ok (.getfield 23, 3)) ∧ (decode prog_1_method_26_code 26 = .ok (.invokevirtual 217, 3)) ∧ (decode prog_1_method_26_code 29 = .ok (.istore_n 2, 1)) ∧ (decode prog_1_method_26_code 30 = .ok (.iload_n 1, 1)) ∧ (decode prog_1_method_26_code 31 = .ok (.lookupswitch 35 #[(0, 25), (1, 33)], 25)) ∧ (decode prog_1_method_26_code 56 = .ok (.aload_n 0, 1)) ∧ (decode prog_1_method_26_code 57 = .ok (.getfield 23, 3)) ∧ (decode prog_1_method_26_code 60 = .ok (.invokevirtual 220, 3)) ∧ (decode prog_1_method_26_code 63 = .ok (.ireturn, 1)) ∧ (decode prog_1_method_26_code 64 = .ok (.iload_n 2, 1)) ∧ (decode prog_1_method_26_code 65 = .ok (.ireturn, 1)) := by
  have h : List.drop 0 prog_1_method_26_code.data.toList = 0x1b :: _ := rfl
  refine ⟨zq_k_n 27 h rfl (zq_o_27 _), ?_⟩
  replace h := zq_nx1 (q := 1) h rfl
  refine ⟨zq_k_n 3 h rfl (zq_o_3 _), ?_⟩
  replace h := zq_nx1 (q := 2) h rfl
  refine ⟨zq_k_n 5 h rfl (zq_o_5 _), ?_⟩
  replace h := zq_nx1 (q := 3) h rfl
  refine ⟨zq_k_u2 184 (fun z => .invokestatic z) 62 h rfl (zq_o_184 _) (by decide +kernel), ?_⟩
  replace h := zq_nx3 (q := 6) h rfl
  refine ⟨zq_k_s2 154 (fun z => .ifCond .ne z) 5 h rfl (zq_o_154 _) (by decide +kernel), ?_⟩
  replace h := zq_nx3 (q := 9) h rfl
  refine ⟨zq_k_n 2 h rfl (zq_o_2 _), ?_⟩
  replace h := zq_nx1 (q := 10) h rfl
  refine ⟨zq_k_n 172 h rfl (zq_o_172 _), ?_⟩
  replace h := zq_nx1 (q := 11) h rfl
  refine ⟨zq_k_n 42 h rfl (zq_o_42 _), ?_⟩
  replace h := zq_nx1 (q := 12) h rfl
  refine ⟨zq_k_u2 180 (fun z => .getfield z) 23 h rfl (zq_o_180 _) (by decide +kernel), ?_⟩
  replace h := zq_nx3 (q := 15) h rfl
  refine ⟨zq_k_n 42 h rfl (zq_o_42 _), ?_⟩
  replace h := zq_nx1 (q := 16) h rfl
  refine ⟨zq_k_u2 180 (fun z => .getfield z) 19 h rfl (zq_o_180 _) (by decide +kernel), ?_⟩
  replace h := zq_nx3 (q := 19) h rfl
  refine ⟨zq_k_u2 182 (fun z => .invokevirtual z) 81 h rfl (zq_o_182 _) (by decide +kernel), ?_⟩
  replace h := zq_nx3 (q := 22) h rfl
  refine ⟨zq_k_n 42 h rfl (zq_o_42 _), ?_⟩
  replace h := zq_nx1 (q := 23) h rfl
  refine ⟨zq_k_u2 180 (fun z => .getfield z) 23 h rfl (zq_o_180 _) (by decide +kernel), ?_⟩
  replace h := zq_nx3 (q := 26) h rfl
  refine ⟨zq_k_u2 182 (fun z => .invokevirtual z) 217 h rfl (zq_o_182 _) (by decide +kernel), ?_⟩
  replace h := zq_nx3 (q := 29) h rfl
  refine ⟨zq_k_n 61 h rfl (zq_o_61 _), ?_⟩
  replace h := zq_nx1 (q := 30) h rfl
  refine ⟨zq_k_n 27 h rfl (zq_o_27 _), ?_⟩
  replace h := zq_nx1 (q := 31) h rfl
  refine ⟨by decide +kernel, ?_⟩
  have h : List.drop 56 prog_1_method_26_code.data.toList = 0x2a :: _ := rfl
  refine ⟨zq_k_n 42 h rfl (zq_o_42 _), ?_⟩
  replace h := zq_nx1 (q := 57) h rfl
  refine ⟨zq_k_u2 180 (fun z => .getfield z) 23 h rfl (zq_o_180 _) (by decide +kernel), ?_⟩
  replace h := zq_nx3 (q := 60) h rfl
  refine ⟨zq_k_u2 182 (fun z => .invokevirtual z) 220 h rfl (zq_o_182 _) (by decide +kernel), ?_⟩
  replace h := zq_nx3 (q := 63) h rfl
  refine ⟨zq_k_n 172 h rfl (zq_o_172 _), ?_⟩
  replace h := zq_nx1 (q := 64) h rfl
  refine ⟨zq_k_n 28 h rfl (zq_o_28 _), ?_⟩
  replace h := zq_nx1 (q := 65) h rfl
  exact zq_k_n 172 h rfl (zq_o_172 _)
set_option maxRecDepth 100000 in
theorem dd_Q_selfish_66 : (decode prog_1_method_26_code 66 = .ok (.aload_n 0, 1)) ∧ (decode prog_1_method_26_code 67 = .ok (.getfield 23, 3)) ∧ (decode prog_1_method_26_code 70 = .ok (.getfield 100, 3)) ∧ (decode prog_1_method_26_code 73 = .ok (.aload_n 0, 1)) ∧ (decode prog_1_method_26_code 74 = .ok (.getfield 19, 3)) ∧ (decode prog_1_method_26_code 77 = .ok (.getfield 100, 3)) ∧ (decode prog_1_method_26_code 80 = .ok (.isub, 1)) ∧ (decode prog_1_method_26_code 81 = .ok (.ireturn, 1)) := by
  have h : List.drop 66 prog_1_method_26_code.data.toList = 0x2a :: _ := rfl
  refine ⟨zq_k_n 42 h rfl (zq_o_42 _), ?_⟩
  replace h := zq_nx1 (q := 67) h rfl
  refine ⟨zq_k_u2 180 (fun z => .getfield z) 23 h rfl (zq_o_180 _) (by decide +kernel), ?_⟩
  replace h := zq_nx3 (q := 70) h rfl
  refine ⟨zq_k_u2 180 (fun z => .getfield z) 100 h rfl (zq_o_180 _) (by decide +kernel), ?_⟩
  replace h := zq_nx3 (q := 73) h rfl
  refine ⟨zq_k_n 42 h rfl (zq_o_42 _), ?_⟩
  replace h := zq_nx1 (q := 74) h rfl
  refine ⟨zq_k_u2 180 (fun z => .getfield z) 19 h rfl (zq_o_180 _) (by decide +kernel), ?_⟩
  replace h := zq_nx3 (q := 77) h rfl
  refine ⟨zq_k_u2 180 (fun z => .getfield z) 100 h rfl (zq_o_180 _) (by decide +kernel), ?_⟩
  replace h := zq_nx3 (q := 80) h rfl
  refine ⟨zq_k_n 100 h rfl (zq_o_100 _), ?_⟩
  replace h := zq_nx1 (q := 81) h rfl
  exact zq_k_n 172 h rfl (zq_o_172 _)
def f_Q_selfish_0  (a0 : Nat) (a1 : Int32) (h : mH) : Option (Int32 × mH) :=
  bd2 (f_Q_isWithin a1 (0 : Int32) (2 : Int32) h) fun x3 h1 =>
  if x3 = 0 then
    some (((-1) : Int32), h1)
  else
    bd1 (gR h1 a0 0 2) fun x4 =>
    bd1 (gR h1 a0 0 1) fun x6 =>
    bd1 (kC h1 x4 4) fun _ =>
    bd1 (f_Realm_copyFrom x4 x6 h1) fun h10 =>
    bd1 (gR h10 a0 0 2) fun x12 =>
    bd1 (kC h10 x12 4) fun _ =>
    bd2 (f_Realm_eachForHimself x12 h10) fun x18 h16 =>
    if a1 = (0 : Int32) then
      bd1 (gR h16 a0 0 2) fun x20 =>
      bd1 (kC h16 x20 4) fun _ =>
      bd2 (f_Realm_met x20 h16) fun x26 h24 =>
      some (x26, h24)
    else
    if a1 = (1 : Int32) then
      some (x18, h16)
    else
    bd1 (gR h16 a0 0 2) fun x28 =>
    bd1 (gI h16 x28 4 3) fun x30 =>
    bd1 (gR h16 a0 0 1) fun x32 =>
    bd1 (gI h16 x32 4 3) fun x34 =>
    some (x30 - x34, h16)
set_option maxRecDepth 20000 in
theorem t_Q_selfish_0 {sc : Nat × (Nat → Int32)}  (a0 : Nat) (a1 : Int32) (h : mH) (r : Int32) (h' : mH) (hf : f_Q_selfish_0  a0 a1 h = some (r, h')) : G sc y_Q_selfish prog_1_method_26_code 3 (some .int) 6 140 0 [(0, .ref a0), (1, .int a1)] [] h (some (.int r)) h' := by
  unfold f_Q_selfish_0 at hf
  refine g_iload_n (pc := 0) 1 dd_Q_selfish_0.1 rfl rfl ?_
  refine g_iconst (pc := 1) (0 : Int32) dd_Q_selfish_0.2.1 (by decide) ?_
  refine g_iconst (pc := 2) (2 : Int32) dd_Q_selfish_0.2.2.1 (by decide) ?_
  obtain ⟨x3, h1, e2, hf⟩ := bd2_e hf
  refine g_callS (pc := 3) [.int a1, .int (0 : Int32), .int (2 : Int32)] (site_of si_Q_isWithin (by decide) (by decide)) wd_331 wd_332 dd_Q_selfish_0.2.2.2.1 (Nat.le_of_ble_eq_true rfl) (fun z => absurd z si_na_Q_isWithin) (fun z => absurd z si_na_Q_isWithin) (fun z => absurd z si_na_Q_isWithin) (c_Q_isWithin e2) rfl ?_
  refine g_st [.int x3] rfl ?_
  refine g_ifne (pc := 6) 11 dd_Q_selfish_0.2.2.2.2.1 (by decide) (fun c36 => ?_) (fun c36 => ?_)
  · replace hf := (if_neg c36).symm.trans hf
    refine g_aload_n (pc := 11) 0 dd_Q_selfish_0.2.2.2.2.2.2.2.1 rfl rfl ?_
    obtain ⟨x4, e5, hf⟩ := bd1_e hf
    refine g_get (pc := 12) (ci := 0) (kk := 2) dd_Q_selfish_0.2.2.2.2.2.2.2.2.1 rfl in_Q (by decide) wd_298 (gR_spec e5) ?_
    refine g_aload_n (pc := 15) 0 dd_Q_selfish_0.2.2.2.2.2.2.2.2.2.1 rfl rfl ?_
    obtain ⟨x6, e7, hf⟩ := bd1_e hf
    refine g_get (pc := 16) (ci := 0) (kk := 1) dd_Q_selfish_0.2.2.2.2.2.2.2.2.2.2.1 rfl in_Q (by decide) wd_297 (gR_spec e7) ?_
    obtain ⟨u9, e8, hf⟩ := bd1_e hf
    obtain ⟨h10, e11, hf⟩ := bd1_e hf
    refine g_callV (pc := 19) (ci := 4) [.ref x6] (site_of si_Realm_copyFrom (by decide) (by decide)) wd_495 wd_496 wd_497 dd_Q_selfish_0.2.2.2.2.2.2.2.2.2.2.2.1 rfl e8 (Nat.le_of_ble_eq_true rfl) (fun z => absurd z si_na_Realm_copyFrom) (fun z => absurd z si_na_Realm_copyFrom) (fun z => absurd z si_na_Realm_copyFrom) (c_Realm_copyFrom e11) rfl ?_
    refine g_st [] rfl ?_
    refine g_aload_n (pc := 22) 0 dd_Q_selfish_0.2.2.2.2.2.2.2.2.2.2.2.2.1 rfl rfl ?_
    obtain ⟨x12, e13, hf⟩ := bd1_e hf
    refine g_get (pc := 23) (ci := 0) (kk := 2) dd_Q_selfish_0.2.2.2.2.2.2.2.2.2.2.2.2.2.1 rfl in_Q (by decide) wd_298 (gR_spec e13) ?_
    obtain ⟨u15, e14, hf⟩ := bd1_e hf
    obtain ⟨x18, h16, e17, hf⟩ := bd2_e hf
    refine g_callV (pc := 26) (ci := 4) [] (site_of si_Realm_eachForHimself (by decide) (by decide)) wd_732 wd_733 wd_734 dd_Q_selfish_0.2.2.2.2.2.2.2.2.2.2.2.2.2.2.1 rfl e14 (Nat.le_of_ble_eq_true rfl) (fun z => absurd z si_na_Realm_eachForHimself) (fun z => absurd z si_na_Realm_eachForHimself) (fun z => absurd z si_na_Realm_eachForHimself) (c_Realm_eachForHimself e17) rfl ?_
    refine g_st [.int x18] rfl ?_
    refine g_istore_n (pc := 29) [(2, .int x18), (0, .ref a0), (1, .int a1)] dd_Q_selfish_0.2.2.2.2.2.2.2.2.2.2.2.2.2.2.2.1 rfl (Nat.le_of_ble_eq_true rfl) rfl ?_
    refine g_iload_n (pc := 30) 2 dd_Q_selfish_0.2.2.2.2.2.2.2.2.2.2.2.2.2.2.2.2.1 rfl rfl ?_
    by_cases c19 : a1 = (0 : Int32)
    · replace hf := (if_pos c19).symm.trans hf
      refine g_lookIn (pc := 31) 56 (0 : Int32) dd_Q_selfish_0.2.2.2.2.2.2.2.2.2.2.2.2.2.2.2.2.2.1 c19 rfl (by decide) ?_
      refine g_aload_n (pc := 56) 1 dd_Q_selfish_0.2.2.2.2.2.2.2.2.2.2.2.2.2.2.2.2.2.2.1 rfl rfl ?_
      obtain ⟨x20, e21, hf⟩ := bd1_e hf
      refine g_get (pc := 57) (ci := 0) (kk := 2) dd_Q_selfish_0.2.2.2.2.2.2.2.2.2.2.2.2.2.2.2.2.2.2.2.1 rfl in_Q (by decide) wd_298 (gR_spec e21) ?_
      obtain ⟨u23, e22, hf⟩ := bd1_e hf
      obtain ⟨x26, h24, e25, hf⟩ := bd2_e hf
      refine g_callV (pc := 60) (ci := 4) [] (site_of si_Realm_met (by decide) (by decide)) wd_741 wd_742 wd_743 dd_Q_selfish_0.2.2.2.2.2.2.2.2.2.2.2.2.2.2.2.2.2.2.2.2.1 rfl e22 (Nat.le_of_ble_eq_true rfl) (fun z => absurd z si_na_Realm_met) (fun z => absurd z si_na_Realm_met) (fun z => absurd z si_na_Realm_met) (c_Realm_met e25) rfl ?_
      refine g_st [.int x26] rfl ?_
      obtain ⟨rfl, rfl⟩ := ret2 hf
      exact g_iret (pc := 63) rfl dd_Q_selfish_0.2.2.2.2.2.2.2.2.2.2.2.2.2.2.2.2.2.2.2.2.2.1
    replace hf := (if_neg c19).symm.trans hf
    by_cases c27 : a1 = (1 : Int32)
    · replace hf := (if_pos c27).symm.trans hf
      refine g_lookIn (pc := 31) 64 (1 : Int32) dd_Q_selfish_0.2.2.2.2.2.2.2.2.2.2.2.2.2.2.2.2.2.1 c27 rfl (by decide) ?_
      refine g_iload_n (pc := 64) 0 dd_Q_selfish_0.2.2.2.2.2.2.2.2.2.2.2.2.2.2.2.2.2.2.2.2.2.2.1 rfl rfl ?_
      obtain ⟨rfl, rfl⟩ := ret2 hf
      exact g_iret (pc := 65) rfl dd_Q_selfish_0.2.2.2.2.2.2.2.2.2.2.2.2.2.2.2.2.2.2.2.2.2.2.2
    replace hf := (if_neg c27).symm.trans hf
    refine g_lookOut (pc := 31) 66 dd_Q_selfish_0.2.2.2.2.2.2.2.2.2.2.2.2.2.2.2.2.2.1 rfl (fun q hq => ?_) (by decide) ?_
    · rcases (show q = (0, 25) ∨ q = (1, 33) by simpa using hq) with rfl | rfl
      · exact c19
      · exact c27
    refine g_aload_n (pc := 66) 1 dd_Q_selfish_66.1 rfl rfl ?_
    obtain ⟨x28, e29, hf⟩ := bd1_e hf
    refine g_get (pc := 67) (ci := 0) (kk := 2) dd_Q_selfish_66.2.1 rfl in_Q (by decide) wd_298 (gR_spec e29) ?_
    obtain ⟨x30, e31, hf⟩ := bd1_e hf
    refine g_get (pc := 70) (ci := 4) (kk := 3) dd_Q_selfish_66.2.2.1 rfl in_Realm (by decide) wd_106 (gI_spec e31) ?_
    refine g_aload_n (pc := 73) 1 dd_Q_selfish_66.2.2.2.1 rfl rfl ?_
    obtain ⟨x32, e33, hf⟩ := bd1_e hf
    refine g_get (pc := 74) (ci := 0) (kk := 1) dd_Q_selfish_66.2.2.2.2.1 rfl in_Q (by decide) wd_297 (gR_spec e33) ?_
    obtain ⟨x34, e35, hf⟩ := bd1_e hf
    refine g_get (pc := 77) (ci := 4) (kk := 3) dd_Q_selfish_66.2.2.2.2.2.1 rfl in_Realm (by decide) wd_106 (gI_spec e35) ?_
    refine g_isub (pc := 80) dd_Q_selfish_66.2.2.2.2.2.2.1 ?_
    obtain ⟨rfl, rfl⟩ := ret2 hf
    exact g_iret (pc := 81) rfl dd_Q_selfish_66.2.2.2.2.2.2.2
  · replace hf := (if_pos c36).symm.trans hf
    refine g_iconst (pc := 9) ((-1) : Int32) dd_Q_selfish_0.2.2.2.2.2.1 (by decide) ?_
    obtain ⟨rfl, rfl⟩ := ret2 hf
    exact g_iret (pc := 10) rfl dd_Q_selfish_0.2.2.2.2.2.2.1
def f_Q_selfish (a0 : Nat) (a1 : Int32) (h : mH) : Option (Int32 × mH) := f_Q_selfish_0 a0 a1 h
theorem c_Q_selfish {sc : Nat × (Nat → Int32)} {a0 : Nat} {a1 : Int32} {h : mH} {r : Int32} {h' : mH} (hf : f_Q_selfish a0 a1 h = some (r, h')) : MM sc y_Q_selfish prog_1_method_26_code 3 (some .int) 6 140 [.ref a0, .int a1] h (some (.int r)) h' :=
  mm_of_G si_pn_Q (Nat.le_of_ble_eq_true rfl) (t_Q_selfish_0 _ _ _ _ _ hf)
/-! Odds addTry (I)V -/
set_option maxRecDepth 100000 in
theorem dd_Odds_addTry_0 : (decode prog_2_method_3_code 0 = .ok (.bipush 9, 2)) ∧ (decode prog_2_method_3_code 2 = .ok (.istore_n 2, 1)) ∧ (decode prog_2_method_3_code 3 = .ok (.iload_n 2, 1)) ∧ (decode prog_2_method_3_code 4 = .ok (.ifCond .le 39, 3)) ∧ (decode prog_2_method_3_code 7 = .ok (.aload_n 0, 1)) ∧ (decode prog_2_method_3_code 8 = .ok (.getfield 11, 3)) ∧ (decode prog_2_method_3_code 11 = .ok (.iload_n 2, 1)) ∧ (decode prog_2_method_3_code 12 = .ok (.aload_n 0, 1)) ∧ (decode prog_2_method_3_code 13 = .ok (.getfield 11, 3)) ∧ (decode prog_2_method_3_code 16 = .ok (.iload_n 2, 1)) ∧ (decode prog_2_method_3_code 17 = .ok (.laload, 1)) ∧ (decode prog_2_method_3_code 18 = .ok (.bipush 10, 2)) ∧ (decode prog_2_method_3_code 20 = .ok (.iload_n 1, 1)) ∧ (decode prog_2_method_3_code 21 = .ok (.isub, 1)) ∧ (decode prog_2_method_3_code 22 = .ok (.i2l, 1)) ∧ (decode prog_2_method_3_code 23 = .ok (.lmul, 1)) ∧ (decode prog_2_method_3_code 24 = .ok (.aload_n 0, 1)) ∧ (decode prog_2_method_3_code 25 = .ok (.getfield 11, 3)) ∧ (decode prog_2_method_3_code 28 = .ok (.iload_n 2, 1)) ∧ (decode prog_2_method_3_code 29 = .ok (.iconst 1, 1)) ∧ (decode prog_2_method_3_code 30 = .ok (.isub, 1)) ∧ (decode prog_2_method_3_code 31 = .ok (.laload, 1)) ∧ (decode prog_2_method_3_code 32 = .ok (.iload_n 1, 1)) ∧ (decode prog_2_method_3_code 33 = .ok (.i2l, 1)) := by
  have h : List.drop 0 prog_2_method_3_code.data.toList = 0x10 :: _ := rfl
  refine ⟨zq_k_s1 16 (fun z => .bipush z) 9 h rfl (zq_o_16 _) (by decide +kernel), ?_⟩
  replace h := zq_nx2 (q := 2) h rfl
  refine ⟨zq_k_n 61 h rfl (zq_o_61 _), ?_⟩
  replace h := zq_nx1 (q := 3) h rfl
  refine ⟨zq_k_n 28 h rfl (zq_o_28 _), ?_⟩
  replace h := zq_nx1 (q := 4) h rfl
  refine ⟨zq_k_s2 158 (fun z => .ifCond .le z) 39 h rfl (zq_o_158 _) (by decide +kernel), ?_⟩
  replace h := zq_nx3 (q := 7) h rfl
  refine ⟨zq_k_n 42 h rfl (zq_o_42 _), ?_⟩
  replace h := zq_nx1 (q := 8) h rfl
  refine ⟨zq_k_u2 180 (fun z => .getfield z) 11 h rfl (zq_o_180 _) (by decide +kernel), ?_⟩
  replace h := zq_nx3 (q := 11) h rfl
  refine ⟨zq_k_n 28 h rfl (zq_o_28 _), ?_⟩
  replace h := zq_nx1 (q := 12) h rfl
  refine ⟨zq_k_n 42 h rfl (zq_o_42 _), ?_⟩
  replace h := zq_nx1 (q := 13) h rfl
  refine ⟨zq_k_u2 180 (fun z => .getfield z) 11 h rfl (zq_o_180 _) (by decide +kernel), ?_⟩
  replace h := zq_nx3 (q := 16) h rfl
  refine ⟨zq_k_n 28 h rfl (zq_o_28 _), ?_⟩
  replace h := zq_nx1 (q := 17) h rfl
  refine ⟨zq_k_n 47 h rfl (zq_o_47 _), ?_⟩
  replace h := zq_nx1 (q := 18) h rfl
  refine ⟨zq_k_s1 16 (fun z => .bipush z) 10 h rfl (zq_o_16 _) (by decide +kernel), ?_⟩
  replace h := zq_nx2 (q := 20) h rfl
  refine ⟨zq_k_n 27 h rfl (zq_o_27 _), ?_⟩
  replace h := zq_nx1 (q := 21) h rfl
  refine ⟨zq_k_n 100 h rfl (zq_o_100 _), ?_⟩
  replace h := zq_nx1 (q := 22) h rfl
  refine ⟨zq_k_n 133 h rfl (zq_o_133 _), ?_⟩
  replace h := zq_nx1 (q := 23) h rfl
  refine ⟨zq_k_n 105 h rfl (zq_o_105 _), ?_⟩
  replace h := zq_nx1 (q := 24) h rfl
  refine ⟨zq_k_n 42 h rfl (zq_o_42 _), ?_⟩
  replace h := zq_nx1 (q := 25) h rfl
  refine ⟨zq_k_u2 180 (fun z => .getfield z) 11 h rfl (zq_o_180 _) (by decide +kernel), ?_⟩
  replace h := zq_nx3 (q := 28) h rfl
  refine ⟨zq_k_n 28 h rfl (zq_o_28 _), ?_⟩
  replace h := zq_nx1 (q := 29) h rfl
  refine ⟨zq_k_n 4 h rfl (zq_o_4 _), ?_⟩
  replace h := zq_nx1 (q := 30) h rfl
  refine ⟨zq_k_n 100 h rfl (zq_o_100 _), ?_⟩
  replace h := zq_nx1 (q := 31) h rfl
  refine ⟨zq_k_n 47 h rfl (zq_o_47 _), ?_⟩
  replace h := zq_nx1 (q := 32) h rfl
  refine ⟨zq_k_n 27 h rfl (zq_o_27 _), ?_⟩
  replace h := zq_nx1 (q := 33) h rfl
  exact zq_k_n 133 h rfl (zq_o_133 _)
set_option maxRecDepth 100000 in
theorem dd_Odds_addTry_34 : (decode prog_2_method_3_code 34 = .ok (.lmul, 1)) ∧ (decode prog_2_method_3_code 35 = .ok (.ladd, 1)) ∧ (decode prog_2_method_3_code 36 = .ok (.lastore, 1)) ∧ (decode prog_2_method_3_code 37 = .ok (.iinc 2 (-1), 3)) ∧ (decode prog_2_method_3_code 40 = .ok (.goto (-37), 3)) ∧ (decode prog_2_method_3_code 43 = .ok (.aload_n 0, 1)) ∧ (decode prog_2_method_3_code 44 = .ok (.getfield 11, 3)) ∧ (decode prog_2_method_3_code 47 = .ok (.iconst 0, 1)) ∧ (decode prog_2_method_3_code 48 = .ok (.dup2, 1)) ∧ (decode prog_2_method_3_code 49 = .ok (.laload, 1)) ∧ (decode prog_2_method_3_code 50 = .ok (.bipush 10, 2)) ∧ (decode prog_2_method_3_code 52 = .ok (.iload_n 1, 1)) ∧ (decode prog_2_method_3_code 53 = .ok (.isub, 1)) ∧ (decode prog_2_method_3_code 54 = .ok (.i2l, 1)) ∧ (decode prog_2_method_3_code 55 = .ok (.lmul, 1)) ∧ (decode prog_2_method_3_code 56 = .ok (.lastore, 1)) ∧ (decode prog_2_method_3_code 57 = .ok (.aload_n 0, 1)) ∧ (decode prog_2_method_3_code 58 = .ok (.dup, 1)) ∧ (decode prog_2_method_3_code 59 = .ok (.getfield 21, 3)) ∧ (decode prog_2_method_3_code 62 = .ok (.ldc2_w 53, 3)) ∧ (decode prog_2_method_3_code 65 = .ok (.lmul, 1)) ∧ (decode prog_2_method_3_code 66 = .ok (.putfield 21, 3)) ∧ (decode prog_2_method_3_code 69 = .ok (.return_, 1)) := by
  have h : List.drop 34 prog_2_method_3_code.data.toList = 0x69 :: _ := rfl
  refine ⟨zq_k_n 105 h rfl (zq_o_105 _), ?_⟩
  replace h := zq_nx1 (q := 35) h rfl
  refine ⟨zq_k_n 97 h rfl (zq_o_97 _), ?_⟩
  replace h := zq_nx1 (q := 36) h rfl
  refine ⟨zq_k_n 80 h rfl (zq_o_80 _), ?_⟩
  replace h := zq_nx1 (q := 37) h rfl
  refine ⟨zq_k_iinc 2 (-1) h rfl (zq_o_132 _) (by decide +kernel) (by decide +kernel), ?_⟩
  replace h := zq_nx3 (q := 40) h rfl
  refine ⟨zq_k_s2 167 (fun z => .goto z) (-37) h rfl (zq_o_167 _) (by decide +kernel), ?_⟩
  replace h := zq_nx3 (q := 43) h rfl
  refine ⟨zq_k_n 42 h rfl (zq_o_42 _), ?_⟩
  replace h := zq_nx1 (q := 44) h rfl
  refine ⟨zq_k_u2 180 (fun z => .getfield z) 11 h rfl (zq_o_180 _) (by decide +kernel), ?_⟩
  replace h := zq_nx3 (q := 47) h rfl
  refine ⟨zq_k_n 3 h rfl (zq_o_3 _), ?_⟩
  replace h := zq_nx1 (q := 48) h rfl
  refine ⟨zq_k_n 92 h rfl (zq_o_92 _), ?_⟩
  replace h := zq_nx1 (q := 49) h rfl
  refine ⟨zq_k_n 47 h rfl (zq_o_47 _), ?_⟩
  replace h := zq_nx1 (q := 50) h rfl
  refine ⟨zq_k_s1 16 (fun z => .bipush z) 10 h rfl (zq_o_16 _) (by decide +kernel), ?_⟩
  replace h := zq_nx2 (q := 52) h rfl
  refine ⟨zq_k_n 27 h rfl (zq_o_27 _), ?_⟩
  replace h := zq_nx1 (q := 53) h rfl
  refine ⟨zq_k_n 100 h rfl (zq_o_100 _), ?_⟩
  replace h := zq_nx1 (q := 54) h rfl
  refine ⟨zq_k_n 133 h rfl (zq_o_133 _), ?_⟩
  replace h := zq_nx1 (q := 55) h rfl
  refine ⟨zq_k_n 105 h rfl (zq_o_105 _), ?_⟩
  replace h := zq_nx1 (q := 56) h rfl
  refine ⟨zq_k_n 80 h rfl (zq_o_80 _), ?_⟩
  replace h := zq_nx1 (q := 57) h rfl
  refine ⟨zq_k_n 42 h rfl (zq_o_42 _), ?_⟩
  replace h := zq_nx1 (q := 58) h rfl
  refine ⟨zq_k_n 89 h rfl (zq_o_89 _), ?_⟩
  replace h := zq_nx1 (q := 59) h rfl
  refine ⟨zq_k_u2 180 (fun z => .getfield z) 21 h rfl (zq_o_180 _) (by decide +kernel), ?_⟩
  replace h := zq_nx3 (q := 62) h rfl
  refine ⟨zq_k_u2 20 (fun z => .ldc2_w z) 53 h rfl (zq_o_20 _) (by decide +kernel), ?_⟩
  replace h := zq_nx3 (q := 65) h rfl
  refine ⟨zq_k_n 105 h rfl (zq_o_105 _), ?_⟩
  replace h := zq_nx1 (q := 66) h rfl
  refine ⟨zq_k_u2 181 (fun z => .putfield z) 21 h rfl (zq_o_181 _) (by decide +kernel), ?_⟩
  replace h := zq_nx3 (q := 69) h rfl
  exact zq_k_n 177 h rfl (zq_o_177 _)
def f_Odds_addTry_3b (rec3 : Nat → Int32 → Int32 → mH → Option mH) (b0 : Nat) (b1 : Int32) (b2 : Int32) (h : mH) : Option mH :=
  if b2 ≤ 0 then
    bd1 (gR h b0 1 2) fun x1 =>
    bd1 (aL h x1 (0 : Int32)) fun x3 =>
    bd1 (sL h x1 (0 : Int32) (x3 * (((10 : Int32) - b1).toInt64))) fun h5 =>
    bd1 (gL h5 b0 1 1) fun x7 =>
    bd1 (pV h5 b0 1 1 (.long (x7 * (10 : Int64)))) fun h9 =>
    some h9
  else
    bd1 (gR h b0 1 2) fun x11 =>
    bd1 (gR h b0 1 2) fun x13 =>
    bd1 (aL h x13 b2) fun x15 =>
    bd1 (gR h b0 1 2) fun x17 =>
    bd1 (aL h x17 (b2 - (1 : Int32))) fun x19 =>
    bd1 (sL h x11 b2 ((x15 * (((10 : Int32) - b1).toInt64)) + (x19 * b1.toInt64))) fun h21 =>
    rec3 b0 b1 (b2 + ((-1) : Int32)) h21
set_option maxRecDepth 20000 in
theorem t_Odds_addTry_3b {sc : Nat × (Nat → Int32)} (rec3 : Nat → Int32 → Int32 → mH → Option mH) (hrec3 : ∀ (b0 : Nat) (b1 : Int32) (b2 : Int32) (h : mH) (h' : mH), rec3 b0 b1 b2 h = some h' → G sc y_Odds_addTry prog_2_method_3_code 3 none 0 0 3 [(0, .ref b0), (1, .int b1), (2, .int b2)] [] h none h') (b0 : Nat) (b1 : Int32) (b2 : Int32) (h : mH) (h' : mH) (hf : f_Odds_addTry_3b rec3 b0 b1 b2 h = some h') : G sc y_Odds_addTry prog_2_method_3_code 3 none 0 0 3 [(0, .ref b0), (1, .int b1), (2, .int b2)] [] h none h' := by
  unfold f_Odds_addTry_3b at hf
  refine g_iload_n (pc := 3) 2 dd_Odds_addTry_0.2.2.1 rfl rfl ?_
  refine g_ifle (pc := 4) 43 dd_Odds_addTry_0.2.2.2.1 (by decide) (fun c23 => ?_) (fun c23 => ?_)
  · replace hf := (if_pos c23).symm.trans hf
    refine g_aload_n (pc := 43) 0 dd_Odds_addTry_34.2.2.2.2.2.1 rfl rfl ?_
    obtain ⟨x1, e2, hf⟩ := bd1_e hf
    refine g_get (pc := 44) (ci := 1) (kk := 2) dd_Odds_addTry_34.2.2.2.2.2.2.1 rfl in_Odds (by decide) wd_272 (gR_spec e2) ?_
    refine g_iconst (pc := 47) (0 : Int32) dd_Odds_addTry_34.2.2.2.2.2.2.2.1 (by decide) ?_
    refine g_dup2 (pc := 48) dd_Odds_addTry_34.2.2.2.2.2.2.2.2.1 rfl rfl ?_
    obtain ⟨x3, e4, hf⟩ := bd1_e hf
    refine g_lald (pc := 49) dd_Odds_addTry_34.2.2.2.2.2.2.2.2.2.1 e4 ?_
    refine g_bipush (pc := 50) (10 : Int32) dd_Odds_addTry_34.2.2.2.2.2.2.2.2.2.2.1 (by decide) ?_
    refine g_iload_n (pc := 52) 1 dd_Odds_addTry_34.2.2.2.2.2.2.2.2.2.2.2.1 rfl rfl ?_
    refine g_isub (pc := 53) dd_Odds_addTry_34.2.2.2.2.2.2.2.2.2.2.2.2.1 ?_
    refine g_i2l (pc := 54) dd_Odds_addTry_34.2.2.2.2.2.2.2.2.2.2.2.2.2.1 ?_
    refine g_lmul (pc := 55) dd_Odds_addTry_34.2.2.2.2.2.2.2.2.2.2.2.2.2.2.1 ?_
    obtain ⟨h5, e6, hf⟩ := bd1_e hf
    refine g_last (pc := 56) dd_Odds_addTry_34.2.2.2.2.2.2.2.2.2.2.2.2.2.2.2.1 e6 ?_
    refine g_aload_n (pc := 57) 0 dd_Odds_addTry_34.2.2.2.2.2.2.2.2.2.2.2.2.2.2.2.2.1 rfl rfl ?_
    refine g_dup (pc := 58) dd_Odds_addTry_34.2.2.2.2.2.2.2.2.2.2.2.2.2.2.2.2.2.1 rfl ?_
    obtain ⟨x7, e8, hf⟩ := bd1_e hf
    refine g_get (pc := 59) (ci := 1) (kk := 1) dd_Odds_addTry_34.2.2.2.2.2.2.2.2.2.2.2.2.2.2.2.2.2.2.1 rfl in_Odds (by decide) wd_270 (gL_spec e8) ?_
    refine g_ldc2 (pc := 62) (10 : Int64) dd_Odds_addTry_34.2.2.2.2.2.2.2.2.2.2.2.2.2.2.2.2.2.2.2.1 wd_762 ?_
    refine g_lmul (pc := 65) dd_Odds_addTry_34.2.2.2.2.2.2.2.2.2.2.2.2.2.2.2.2.2.2.2.2.1 ?_
    obtain ⟨h9, e10, hf⟩ := bd1_e hf
    refine g_put (pc := 66) (ci := 1) (kk := 1) ty_Odds tyok_Odds nm_Odds dd_Odds_addTry_34.2.2.2.2.2.2.2.2.2.2.2.2.2.2.2.2.2.2.2.2.2.1 rfl in_Odds (by decide) wd_270 rfl (fun _ => rfl) (fun _ => rfl) (fun _ z => by cases z) e10 ?_
    obtain rfl := ret1 hf
    exact g_vret (pc := 69) rfl dd_Odds_addTry_34.2.2.2.2.2.2.2.2.2.2.2.2.2.2.2.2.2.2.2.2.2.2
  · replace hf := (if_neg c23).symm.trans hf
    refine g_aload_n (pc := 7) 0 dd_Odds_addTry_0.2.2.2.2.1 rfl rfl ?_
    obtain ⟨x11, e12, hf⟩ := bd1_e hf
    refine g_get (pc := 8) (ci := 1) (kk := 2) dd_Odds_addTry_0.2.2.2.2.2.1 rfl in_Odds (by decide) wd_272 (gR_spec e12) ?_
    refine g_iload_n (pc := 11) 2 dd_Odds_addTry_0.2.2.2.2.2.2.1 rfl rfl ?_
    refine g_aload_n (pc := 12) 0 dd_Odds_addTry_0.2.2.2.2.2.2.2.1 rfl rfl ?_
    obtain ⟨x13, e14, hf⟩ := bd1_e hf
    refine g_get (pc := 13) (ci := 1) (kk := 2) dd_Odds_addTry_0.2.2.2.2.2.2.2.2.1 rfl in_Odds (by decide) wd_272 (gR_spec e14) ?_
    refine g_iload_n (pc := 16) 2 dd_Odds_addTry_0.2.2.2.2.2.2.2.2.2.1 rfl rfl ?_
    obtain ⟨x15, e16, hf⟩ := bd1_e hf
    refine g_lald (pc := 17) dd_Odds_addTry_0.2.2.2.2.2.2.2.2.2.2.1 e16 ?_
    refine g_bipush (pc := 18) (10 : Int32) dd_Odds_addTry_0.2.2.2.2.2.2.2.2.2.2.2.1 (by decide) ?_
    refine g_iload_n (pc := 20) 1 dd_Odds_addTry_0.2.2.2.2.2.2.2.2.2.2.2.2.1 rfl rfl ?_
    refine g_isub (pc := 21) dd_Odds_addTry_0.2.2.2.2.2.2.2.2.2.2.2.2.2.1 ?_
    refine g_i2l (pc := 22) dd_Odds_addTry_0.2.2.2.2.2.2.2.2.2.2.2.2.2.2.1 ?_
    refine g_lmul (pc := 23) dd_Odds_addTry_0.2.2.2.2.2.2.2.2.2.2.2.2.2.2.2.1 ?_
    refine g_aload_n (pc := 24) 0 dd_Odds_addTry_0.2.2.2.2.2.2.2.2.2.2.2.2.2.2.2.2.1 rfl rfl ?_
    obtain ⟨x17, e18, hf⟩ := bd1_e hf
    refine g_get (pc := 25) (ci := 1) (kk := 2) dd_Odds_addTry_0.2.2.2.2.2.2.2.2.2.2.2.2.2.2.2.2.2.1 rfl in_Odds (by decide) wd_272 (gR_spec e18) ?_
    refine g_iload_n (pc := 28) 2 dd_Odds_addTry_0.2.2.2.2.2.2.2.2.2.2.2.2.2.2.2.2.2.2.1 rfl rfl ?_
    refine g_iconst (pc := 29) (1 : Int32) dd_Odds_addTry_0.2.2.2.2.2.2.2.2.2.2.2.2.2.2.2.2.2.2.2.1 (by decide) ?_
    refine g_isub (pc := 30) dd_Odds_addTry_0.2.2.2.2.2.2.2.2.2.2.2.2.2.2.2.2.2.2.2.2.1 ?_
    obtain ⟨x19, e20, hf⟩ := bd1_e hf
    refine g_lald (pc := 31) dd_Odds_addTry_0.2.2.2.2.2.2.2.2.2.2.2.2.2.2.2.2.2.2.2.2.2.1 e20 ?_
    refine g_iload_n (pc := 32) 1 dd_Odds_addTry_0.2.2.2.2.2.2.2.2.2.2.2.2.2.2.2.2.2.2.2.2.2.2.1 rfl rfl ?_
    refine g_i2l (pc := 33) dd_Odds_addTry_0.2.2.2.2.2.2.2.2.2.2.2.2.2.2.2.2.2.2.2.2.2.2.2 ?_
    refine g_lmul (pc := 34) dd_Odds_addTry_34.1 ?_
    refine g_ladd (pc := 35) dd_Odds_addTry_34.2.1 ?_
    obtain ⟨h21, e22, hf⟩ := bd1_e hf
    refine g_last (pc := 36) dd_Odds_addTry_34.2.2.1 e22 ?_
    refine g_iinc (pc := 37) 2 (b2 + ((-1) : Int32)) [(2, .int (b2 + ((-1) : Int32))), (0, .ref b0), (1, .int b1)] dd_Odds_addTry_34.2.2.2.1 rfl rfl (Nat.le_of_ble_eq_true rfl) rfl ?_
    refine g_goto (pc := 40) 3 dd_Odds_addTry_34.2.2.2.2.1 (by decide) ?_
    refine g_lv [1, 2, 0] rfl ?_
    exact hrec3 _ _ _ _ _  hf
def f_Odds_addTry_3  : Nat → Nat → Int32 → Int32 → mH → Option mH
  | 0 => fun _ _ _ _ => none
  | n + 1 => f_Odds_addTry_3b  (f_Odds_addTry_3  n)
theorem t_Odds_addTry_3 {sc : Nat × (Nat → Int32)}  : ∀ (n : Nat) (b0 : Nat) (b1 : Int32) (b2 : Int32) (h : mH) (h' : mH) (hf : f_Odds_addTry_3  n b0 b1 b2 h = some h'), G sc y_Odds_addTry prog_2_method_3_code 3 none 0 0 3 [(0, .ref b0), (1, .int b1), (2, .int b2)] [] h none h'
  | 0, _, _, _, _, _, hf => by cases hf
  | n + 1, _, _, _, _, _, hf => t_Odds_addTry_3b  (f_Odds_addTry_3  n) (t_Odds_addTry_3  n) _ _ _ _ _ hf
def f_Odds_addTry_0  (a0 : Nat) (a1 : Int32) (h : mH) : Option mH :=
  f_Odds_addTry_3  FU a0 a1 (9 : Int32) h
set_option maxRecDepth 20000 in
theorem t_Odds_addTry_0 {sc : Nat × (Nat → Int32)}  (a0 : Nat) (a1 : Int32) (h : mH) (h' : mH) (hf : f_Odds_addTry_0  a0 a1 h = some h') : G sc y_Odds_addTry prog_2_method_3_code 3 none 0 0 0 [(0, .ref a0), (1, .int a1)] [] h none h' := by
  unfold f_Odds_addTry_0 at hf
  refine g_bipush (pc := 0) (9 : Int32) dd_Odds_addTry_0.1 (by decide) ?_
  refine g_istore_n (pc := 2) [(2, .int (9 : Int32)), (0, .ref a0), (1, .int a1)] dd_Odds_addTry_0.2.1 rfl (Nat.le_of_ble_eq_true rfl) rfl ?_
  refine g_lv [1, 2, 0] rfl ?_
  exact t_Odds_addTry_3  FU _ _ _ _ _  hf
def f_Odds_addTry (a0 : Nat) (a1 : Int32) (h : mH) : Option mH := f_Odds_addTry_0 a0 a1 h
theorem c_Odds_addTry {sc : Nat × (Nat → Int32)} {a0 : Nat} {a1 : Int32} {h : mH} {h' : mH} (hf : f_Odds_addTry a0 a1 h = some h') : MM sc y_Odds_addTry prog_2_method_3_code 3 none 0 0 [.ref a0, .int a1] h none h' :=
  mm_of_G si_pn_Odds (Nat.le_of_ble_eq_true rfl) (t_Odds_addTry_0 _ _ _ _ hf)
/-! Odds reduce ()V -/
set_option maxRecDepth 100000 in
theorem dd_Odds_reduce_0 : (decode prog_2_method_4_code 0 = .ok (.aload_n 0, 1)) ∧ (decode prog_2_method_4_code 1 = .ok (.getfield 21, 3)) ∧ (decode prog_2_method_4_code 4 = .ok (.lstore_n 1, 1)) ∧ (decode prog_2_method_4_code 5 = .ok (.aload_n 0, 1)) ∧ (decode prog_2_method_4_code 6 = .ok (.getfield 43, 3)) ∧ (decode prog_2_method_4_code 9 = .ok (.lstore_n 3, 1)) ∧ (decode prog_2_method_4_code 10 = .ok (.iconst 0, 1)) ∧ (decode prog_2_method_4_code 11 = .ok (.istore 5, 2)) ∧ (decode prog_2_method_4_code 13 = .ok (.iload 5, 2)) ∧ (decode prog_2_method_4_code 15 = .ok (.bipush 100, 2)) ∧ (decode prog_2_method_4_code 17 = .ok (.if_icmp .ge 25, 3)) ∧ (decode prog_2_method_4_code 20 = .ok (.lload_n 3, 1)) ∧ (decode prog_2_method_4_code 21 = .ok (.lconst 0, 1)) ∧ (decode prog_2_method_4_code 22 = .ok (.lcmp, 1)) ∧ (decode prog_2_method_4_code 23 = .ok (.ifCond .eq 19, 3)) ∧ (decode prog_2_method_4_code 26 = .ok (.lload_n 1, 1)) ∧ (decode prog_2_method_4_code 27 = .ok (.lload_n 3, 1)) ∧ (decode prog_2_method_4_code 28 = .ok (.lrem, 1)) ∧ (decode prog_2_method_4_code 29 = .ok (.lstore 6, 2)) ∧ (decode prog_2_method_4_code 31 = .ok (.lload_n 3, 1)) ∧ (decode prog_2_method_4_code 32 = .ok (.lstore_n 1, 1)) ∧ (decode prog_2_method_4_code 33 = .ok (.lload 6, 2)) ∧ (decode prog_2_method_4_code 35 = .ok (.lstore_n 3, 1)) ∧ (decode prog_2_method_4_code 36 = .ok (.iinc 5 1, 3)) := by
  have h : List.drop 0 prog_2_method_4_code.data.toList = 0x2a :: _ := rfl
  refine ⟨zq_k_n 42 h rfl (zq_o_42 _), ?_⟩
  replace h := zq_nx1 (q := 1) h rfl
  refine ⟨zq_k_u2 180 (fun z => .getfield z) 21 h rfl (zq_o_180 _) (by decide +kernel), ?_⟩
  replace h := zq_nx3 (q := 4) h rfl
  refine ⟨zq_k_n 64 h rfl (zq_o_64 _), ?_⟩
  replace h := zq_nx1 (q := 5) h rfl
  refine ⟨zq_k_n 42 h rfl (zq_o_42 _), ?_⟩
  replace h := zq_nx1 (q := 6) h rfl
  refine ⟨zq_k_u2 180 (fun z => .getfield z) 43 h rfl (zq_o_180 _) (by decide +kernel), ?_⟩
  replace h := zq_nx3 (q := 9) h rfl
  refine ⟨zq_k_n 66 h rfl (zq_o_66 _), ?_⟩
  replace h := zq_nx1 (q := 10) h rfl
  refine ⟨zq_k_n 3 h rfl (zq_o_3 _), ?_⟩
  replace h := zq_nx1 (q := 11) h rfl
  refine ⟨zq_k_u1 54 (fun z => .istore z) 5 h rfl (zq_o_54 _) (by decide +kernel), ?_⟩
  replace h := zq_nx2 (q := 13) h rfl
  refine ⟨zq_k_u1 21 (fun z => .iload z) 5 h rfl (zq_o_21 _) (by decide +kernel), ?_⟩
  replace h := zq_nx2 (q := 15) h rfl
  refine ⟨zq_k_s1 16 (fun z => .bipush z) 100 h rfl (zq_o_16 _) (by decide +kernel), ?_⟩
  replace h := zq_nx2 (q := 17) h rfl
  refine ⟨zq_k_s2 162 (fun z => .if_icmp .ge z) 25 h rfl (zq_o_162 _) (by decide +kernel), ?_⟩
  replace h := zq_nx3 (q := 20) h rfl
  refine ⟨zq_k_n 33 h rfl (zq_o_33 _), ?_⟩
  replace h := zq_nx1 (q := 21) h rfl
  refine ⟨zq_k_n 9 h rfl (zq_o_9 _), ?_⟩
  replace h := zq_nx1 (q := 22) h rfl
  refine ⟨zq_k_n 148 h rfl (zq_o_148 _), ?_⟩
  replace h := zq_nx1 (q := 23) h rfl
  refine ⟨zq_k_s2 153 (fun z => .ifCond .eq z) 19 h rfl (zq_o_153 _) (by decide +kernel), ?_⟩
  replace h := zq_nx3 (q := 26) h rfl
  refine ⟨zq_k_n 31 h rfl (zq_o_31 _), ?_⟩
  replace h := zq_nx1 (q := 27) h rfl
  refine ⟨zq_k_n 33 h rfl (zq_o_33 _), ?_⟩
  replace h := zq_nx1 (q := 28) h rfl
  refine ⟨zq_k_n 113 h rfl (zq_o_113 _), ?_⟩
  replace h := zq_nx1 (q := 29) h rfl
  refine ⟨zq_k_u1 55 (fun z => .lstore z) 6 h rfl (zq_o_55 _) (by decide +kernel), ?_⟩
  replace h := zq_nx2 (q := 31) h rfl
  refine ⟨zq_k_n 33 h rfl (zq_o_33 _), ?_⟩
  replace h := zq_nx1 (q := 32) h rfl
  refine ⟨zq_k_n 64 h rfl (zq_o_64 _), ?_⟩
  replace h := zq_nx1 (q := 33) h rfl
  refine ⟨zq_k_u1 22 (fun z => .lload z) 6 h rfl (zq_o_22 _) (by decide +kernel), ?_⟩
  replace h := zq_nx2 (q := 35) h rfl
  refine ⟨zq_k_n 66 h rfl (zq_o_66 _), ?_⟩
  replace h := zq_nx1 (q := 36) h rfl
  exact zq_k_iinc 5 1 h rfl (zq_o_132 _) (by decide +kernel) (by decide +kernel)
set_option maxRecDepth 100000 in
theorem dd_Odds_reduce_39 : (decode prog_2_method_4_code 39 = .ok (.goto (-26), 3)) ∧ (decode prog_2_method_4_code 42 = .ok (.lload_n 1, 1)) ∧ (decode prog_2_method_4_code 43 = .ok (.lconst 0, 1)) ∧ (decode prog_2_method_4_code 44 = .ok (.lcmp, 1)) ∧ (decode prog_2_method_4_code 45 = .ok (.ifCond .le 23, 3)) ∧ (decode prog_2_method_4_code 48 = .ok (.aload_n 0, 1)) ∧ (decode prog_2_method_4_code 49 = .ok (.dup, 1)) ∧ (decode prog_2_method_4_code 50 = .ok (.getfield 43, 3)) ∧ (decode prog_2_method_4_code 53 = .ok (.lload_n 1, 1)) ∧ (decode prog_2_method_4_code 54 = .ok (.ldiv, 1)) ∧ (decode prog_2_method_4_code 55 = .ok (.putfield 43, 3)) ∧ (decode prog_2_method_4_code 58 = .ok (.aload_n 0, 1)) ∧ (decode prog_2_method_4_code 59 = .ok (.dup, 1)) ∧ (decode prog_2_method_4_code 60 = .ok (.getfield 21, 3)) ∧ (decode prog_2_method_4_code 63 = .ok (.lload_n 1, 1)) ∧ (decode prog_2_method_4_code 64 = .ok (.ldiv, 1)) ∧ (decode prog_2_method_4_code 65 = .ok (.putfield 21, 3)) ∧ (decode prog_2_method_4_code 68 = .ok (.return_, 1)) := by
  have h : List.drop 39 prog_2_method_4_code.data.toList = 0xa7 :: _ := rfl
  refine ⟨zq_k_s2 167 (fun z => .goto z) (-26) h rfl (zq_o_167 _) (by decide +kernel), ?_⟩
  replace h := zq_nx3 (q := 42) h rfl
  refine ⟨zq_k_n 31 h rfl (zq_o_31 _), ?_⟩
  replace h := zq_nx1 (q := 43) h rfl
  refine ⟨zq_k_n 9 h rfl (zq_o_9 _), ?_⟩
  replace h := zq_nx1 (q := 44) h rfl
  refine ⟨zq_k_n 148 h rfl (zq_o_148 _), ?_⟩
  replace h := zq_nx1 (q := 45) h rfl
  refine ⟨zq_k_s2 158 (fun z => .ifCond .le z) 23 h rfl (zq_o_158 _) (by decide +kernel), ?_⟩
  replace h := zq_nx3 (q := 48) h rfl
  refine ⟨zq_k_n 42 h rfl (zq_o_42 _), ?_⟩
  replace h := zq_nx1 (q := 49) h rfl
  refine ⟨zq_k_n 89 h rfl (zq_o_89 _), ?_⟩
  replace h := zq_nx1 (q := 50) h rfl
  refine ⟨zq_k_u2 180 (fun z => .getfield z) 43 h rfl (zq_o_180 _) (by decide +kernel), ?_⟩
  replace h := zq_nx3 (q := 53) h rfl
  refine ⟨zq_k_n 31 h rfl (zq_o_31 _), ?_⟩
  replace h := zq_nx1 (q := 54) h rfl
  refine ⟨zq_k_n 109 h rfl (zq_o_109 _), ?_⟩
  replace h := zq_nx1 (q := 55) h rfl
  refine ⟨zq_k_u2 181 (fun z => .putfield z) 43 h rfl (zq_o_181 _) (by decide +kernel), ?_⟩
  replace h := zq_nx3 (q := 58) h rfl
  refine ⟨zq_k_n 42 h rfl (zq_o_42 _), ?_⟩
  replace h := zq_nx1 (q := 59) h rfl
  refine ⟨zq_k_n 89 h rfl (zq_o_89 _), ?_⟩
  replace h := zq_nx1 (q := 60) h rfl
  refine ⟨zq_k_u2 180 (fun z => .getfield z) 21 h rfl (zq_o_180 _) (by decide +kernel), ?_⟩
  replace h := zq_nx3 (q := 63) h rfl
  refine ⟨zq_k_n 31 h rfl (zq_o_31 _), ?_⟩
  replace h := zq_nx1 (q := 64) h rfl
  refine ⟨zq_k_n 109 h rfl (zq_o_109 _), ?_⟩
  replace h := zq_nx1 (q := 65) h rfl
  refine ⟨zq_k_u2 181 (fun z => .putfield z) 21 h rfl (zq_o_181 _) (by decide +kernel), ?_⟩
  replace h := zq_nx3 (q := 68) h rfl
  exact zq_k_n 177 h rfl (zq_o_177 _)
def f_Odds_reduce_42  (b0 : Nat) (b1 : Int64) (h : mH) : Option mH :=
  if (lg_cmp b1 (0 : Int64)) ≤ 0 then
    some h
  else
    bd1 (gL h b0 1 0) fun x8 =>
    if b1 = 0 then none else
    bd1 (pV h b0 1 0 (.long (x8 / b1))) fun h11 =>
    bd1 (gL h11 b0 1 1) fun x13 =>
    if b1 = 0 then none else
    bd1 (pV h11 b0 1 1 (.long (x13 / b1))) fun h16 =>
    some h16
set_option maxRecDepth 20000 in
theorem t_Odds_reduce_42 {sc : Nat × (Nat → Int32)}  (b0 : Nat) (b1 : Int64) (h : mH) (h' : mH) (hf : f_Odds_reduce_42  b0 b1 h = some h') : G sc y_Odds_reduce prog_2_method_4_code 8 none 0 0 42 [(0, .ref b0), (1, .long b1)] [] h none h' := by
  unfold f_Odds_reduce_42 at hf
  refine g_lload_n (pc := 42) 1 dd_Odds_reduce_39.2.1 rfl rfl ?_
  refine g_lconst (pc := 43) (0 : Int64) dd_Odds_reduce_39.2.2.1 (by decide) ?_
  refine g_lcmp (pc := 44) dd_Odds_reduce_39.2.2.2.1 ?_
  refine g_ifle (pc := 45) 68 dd_Odds_reduce_39.2.2.2.2.1 (by decide) (fun c18 => ?_) (fun c18 => ?_)
  · replace hf := (if_pos c18).symm.trans hf
    obtain rfl := ret1 hf
    exact g_vret (pc := 68) rfl dd_Odds_reduce_39.2.2.2.2.2.2.2.2.2.2.2.2.2.2.2.2.2
  · replace hf := (if_neg c18).symm.trans hf
    refine g_aload_n (pc := 48) 0 dd_Odds_reduce_39.2.2.2.2.2.1 rfl rfl ?_
    refine g_dup (pc := 49) dd_Odds_reduce_39.2.2.2.2.2.2.1 rfl ?_
    obtain ⟨x8, e9, hf⟩ := bd1_e hf
    refine g_get (pc := 50) (ci := 1) (kk := 0) dd_Odds_reduce_39.2.2.2.2.2.2.2.1 rfl in_Odds (by decide) wd_268 (gL_spec e9) ?_
    refine g_lload_n (pc := 53) 1 dd_Odds_reduce_39.2.2.2.2.2.2.2.2.1 rfl rfl ?_
    have c10 : ¬ b1 = 0 := fun z => absurd ((if_pos z).symm.trans hf) (by simp)
    replace hf := (if_neg c10).symm.trans hf
    refine g_ldiv (pc := 54) dd_Odds_reduce_39.2.2.2.2.2.2.2.2.2.1 c10 ?_
    obtain ⟨h11, e12, hf⟩ := bd1_e hf
    refine g_put (pc := 55) (ci := 1) (kk := 0) ty_Odds tyok_Odds nm_Odds dd_Odds_reduce_39.2.2.2.2.2.2.2.2.2.2.1 rfl in_Odds (by decide) wd_268 rfl (fun _ => rfl) (fun _ => rfl) (fun _ z => by cases z) e12 ?_
    refine g_aload_n (pc := 58) 0 dd_Odds_reduce_39.2.2.2.2.2.2.2.2.2.2.2.1 rfl rfl ?_
    refine g_dup (pc := 59) dd_Odds_reduce_39.2.2.2.2.2.2.2.2.2.2.2.2.1 rfl ?_
    obtain ⟨x13, e14, hf⟩ := bd1_e hf
    refine g_get (pc := 60) (ci := 1) (kk := 1) dd_Odds_reduce_39.2.2.2.2.2.2.2.2.2.2.2.2.2.1 rfl in_Odds (by decide) wd_270 (gL_spec e14) ?_
    refine g_lload_n (pc := 63) 1 dd_Odds_reduce_39.2.2.2.2.2.2.2.2.2.2.2.2.2.2.1 rfl rfl ?_
    have c15 : ¬ b1 = 0 := fun z => absurd ((if_pos z).symm.trans hf) (by simp)
    replace hf := (if_neg c15).symm.trans hf
    refine g_ldiv (pc := 64) dd_Odds_reduce_39.2.2.2.2.2.2.2.2.2.2.2.2.2.2.2.1 c15 ?_
    obtain ⟨h16, e17, hf⟩ := bd1_e hf
    refine g_put (pc := 65) (ci := 1) (kk := 1) ty_Odds tyok_Odds nm_Odds dd_Odds_reduce_39.2.2.2.2.2.2.2.2.2.2.2.2.2.2.2.2.1 rfl in_Odds (by decide) wd_270 rfl (fun _ => rfl) (fun _ => rfl) (fun _ z => by cases z) e17 ?_
    obtain rfl := ret1 hf
    exact g_vret (pc := 68) rfl dd_Odds_reduce_39.2.2.2.2.2.2.2.2.2.2.2.2.2.2.2.2.2
def f_Odds_reduce_13b (rec13 : Nat → Int64 → Int64 → Int32 → mH → Option mH) (b0 : Nat) (b1 : Int64) (b3 : Int64) (b5 : Int32) (h : mH) : Option mH :=
  if (100 : Int32) ≤ b5 then
    f_Odds_reduce_42  b0 b1 h
  else
    if (lg_cmp b3 (0 : Int64)) = 0 then
      f_Odds_reduce_42  b0 b1 h
    else
      if b3 = 0 then none else
      rec13 b0 b3 (b1 - b1 / b3 * b3) (b5 + (1 : Int32)) h
set_option maxRecDepth 20000 in
theorem t_Odds_reduce_13b {sc : Nat × (Nat → Int32)} (rec13 : Nat → Int64 → Int64 → Int32 → mH → Option mH) (hrec13 : ∀ (b0 : Nat) (b1 : Int64) (b3 : Int64) (b5 : Int32) (h : mH) (h' : mH), rec13 b0 b1 b3 b5 h = some h' → G sc y_Odds_reduce prog_2_method_4_code 8 none 0 0 13 [(0, .ref b0), (1, .long b1), (3, .long b3), (5, .int b5)] [] h none h') (b0 : Nat) (b1 : Int64) (b3 : Int64) (b5 : Int32) (h : mH) (h' : mH) (hf : f_Odds_reduce_13b rec13 b0 b1 b3 b5 h = some h') : G sc y_Odds_reduce prog_2_method_4_code 8 none 0 0 13 [(0, .ref b0), (1, .long b1), (3, .long b3), (5, .int b5)] [] h none h' := by
  unfold f_Odds_reduce_13b at hf
  refine g_iload (pc := 13) 3 dd_Odds_reduce_0.2.2.2.2.2.2.2.2.1 rfl ?_
  refine g_bipush (pc := 15) (100 : Int32) dd_Odds_reduce_0.2.2.2.2.2.2.2.2.2.1 (by decide) ?_
  refine g_icmpge (pc := 17) 42 dd_Odds_reduce_0.2.2.2.2.2.2.2.2.2.2.1 (by decide) (fun c7 => ?_) (fun c7 => ?_)
  · replace hf := (if_pos c7).symm.trans hf
    refine g_lv [0, 1] rfl ?_
    exact t_Odds_reduce_42  _ _ _ _  hf
  · replace hf := (if_neg c7).symm.trans hf
    refine g_lload_n (pc := 20) 2 dd_Odds_reduce_0.2.2.2.2.2.2.2.2.2.2.2.1 rfl rfl ?_
    refine g_lconst (pc := 21) (0 : Int64) dd_Odds_reduce_0.2.2.2.2.2.2.2.2.2.2.2.2.1 (by decide) ?_
    refine g_lcmp (pc := 22) dd_Odds_reduce_0.2.2.2.2.2.2.2.2.2.2.2.2.2.1 ?_
    refine g_ifeq (pc := 23) 42 dd_Odds_reduce_0.2.2.2.2.2.2.2.2.2.2.2.2.2.2.1 (by decide) (fun c6 => ?_) (fun c6 => ?_)
    · replace hf := (if_pos c6).symm.trans hf
      refine g_lv [0, 1] rfl ?_
      exact t_Odds_reduce_42  _ _ _ _  hf
    · replace hf := (if_neg c6).symm.trans hf
      refine g_lload_n (pc := 26) 1 dd_Odds_reduce_0.2.2.2.2.2.2.2.2.2.2.2.2.2.2.2.1 rfl rfl ?_
      refine g_lload_n (pc := 27) 2 dd_Odds_reduce_0.2.2.2.2.2.2.2.2.2.2.2.2.2.2.2.2.1 rfl rfl ?_
      have c5 : ¬ b3 = 0 := fun z => absurd ((if_pos z).symm.trans hf) (by simp)
      replace hf := (if_neg c5).symm.trans hf
      refine g_lrem (pc := 28) dd_Odds_reduce_0.2.2.2.2.2.2.2.2.2.2.2.2.2.2.2.2.2.1 c5 ?_
      refine g_lstore (pc := 29) [(6, .long (b1 - b1 / b3 * b3)), (0, .ref b0), (1, .long b1), (3, .long b3), (5, .int b5)] dd_Odds_reduce_0.2.2.2.2.2.2.2.2.2.2.2.2.2.2.2.2.2.2.1 (Nat.le_of_ble_eq_true rfl) rfl ?_
      refine g_lload_n (pc := 31) 3 dd_Odds_reduce_0.2.2.2.2.2.2.2.2.2.2.2.2.2.2.2.2.2.2.2.1 rfl rfl ?_
      refine g_lstore_n (pc := 32) [(1, .long b3), (6, .long (b1 - b1 / b3 * b3)), (0, .ref b0), (3, .long b3), (5, .int b5)] dd_Odds_reduce_0.2.2.2.2.2.2.2.2.2.2.2.2.2.2.2.2.2.2.2.2.1 rfl (Nat.le_of_ble_eq_true rfl) rfl ?_
      refine g_lload (pc := 33) 1 dd_Odds_reduce_0.2.2.2.2.2.2.2.2.2.2.2.2.2.2.2.2.2.2.2.2.2.1 rfl ?_
      refine g_lstore_n (pc := 35) [(3, .long (b1 - b1 / b3 * b3)), (1, .long b3), (6, .long (b1 - b1 / b3 * b3)), (0, .ref b0), (5, .int b5)] dd_Odds_reduce_0.2.2.2.2.2.2.2.2.2.2.2.2.2.2.2.2.2.2.2.2.2.2.1 rfl (Nat.le_of_ble_eq_true rfl) rfl ?_
      refine g_iinc (pc := 36) 4 (b5 + (1 : Int32)) [(5, .int (b5 + (1 : Int32))), (3, .long (b1 - b1 / b3 * b3)), (1, .long b3), (6, .long (b1 - b1 / b3 * b3)), (0, .ref b0)] dd_Odds_reduce_0.2.2.2.2.2.2.2.2.2.2.2.2.2.2.2.2.2.2.2.2.2.2.2 rfl rfl (Nat.le_of_ble_eq_true rfl) rfl ?_
      refine g_goto (pc := 39) 13 dd_Odds_reduce_39.1 (by decide) ?_
      refine g_lv [4, 2, 1, 0] rfl ?_
      exact hrec13 _ _ _ _ _ _  hf
def f_Odds_reduce_13  : Nat → Nat → Int64 → Int64 → Int32 → mH → Option mH
  | 0 => fun _ _ _ _ _ => none
  | n + 1 => f_Odds_reduce_13b  (f_Odds_reduce_13  n)
theorem t_Odds_reduce_13 {sc : Nat × (Nat → Int32)}  : ∀ (n : Nat) (b0 : Nat) (b1 : Int64) (b3 : Int64) (b5 : Int32) (h : mH) (h' : mH) (hf : f_Odds_reduce_13  n b0 b1 b3 b5 h = some h'), G sc y_Odds_reduce prog_2_method_4_code 8 none 0 0 13 [(0, .ref b0), (1, .long b1), (3, .long b3), (5, .int b5)] [] h none h'
  | 0, _, _, _, _, _, _, hf => by cases hf
  | n + 1, _, _, _, _, _, _, hf => t_Odds_reduce_13b  (f_Odds_reduce_13  n) (t_Odds_reduce_13  n) _ _ _ _ _ _ hf
def f_Odds_reduce_0  (a0 : Nat) (h : mH) : Option mH :=
  bd1 (gL h a0 1 1) fun x1 =>
  bd1 (gL h a0 1 0) fun x3 =>
  f_Odds_reduce_13  FU a0 x1 x3 (0 : Int32) h
set_option maxRecDepth 20000 in
theorem t_Odds_reduce_0 {sc : Nat × (Nat → Int32)}  (a0 : Nat) (h : mH) (h' : mH) (hf : f_Odds_reduce_0  a0 h = some h') : G sc y_Odds_reduce prog_2_method_4_code 8 none 0 0 0 [(0, .ref a0)] [] h none h' := by
  unfold f_Odds_reduce_0 at hf
  refine g_aload_n (pc := 0) 0 dd_Odds_reduce_0.1 rfl rfl ?_
  obtain ⟨x1, e2, hf⟩ := bd1_e hf
  refine g_get (pc := 1) (ci := 1) (kk := 1) dd_Odds_reduce_0.2.1 rfl in_Odds (by decide) wd_270 (gL_spec e2) ?_
  refine g_lstore_n (pc := 4) [(1, .long x1), (0, .ref a0)] dd_Odds_reduce_0.2.2.1 rfl (Nat.le_of_ble_eq_true rfl) rfl ?_
  refine g_aload_n (pc := 5) 1 dd_Odds_reduce_0.2.2.2.1 rfl rfl ?_
  obtain ⟨x3, e4, hf⟩ := bd1_e hf
  refine g_get (pc := 6) (ci := 1) (kk := 0) dd_Odds_reduce_0.2.2.2.2.1 rfl in_Odds (by decide) wd_268 (gL_spec e4) ?_
  refine g_lstore_n (pc := 9) [(3, .long x3), (1, .long x1), (0, .ref a0)] dd_Odds_reduce_0.2.2.2.2.2.1 rfl (Nat.le_of_ble_eq_true rfl) rfl ?_
  refine g_iconst (pc := 10) (0 : Int32) dd_Odds_reduce_0.2.2.2.2.2.2.1 (by decide) ?_
  refine g_istore (pc := 11) [(5, .int (0 : Int32)), (3, .long x3), (1, .long x1), (0, .ref a0)] dd_Odds_reduce_0.2.2.2.2.2.2.2.1 (Nat.le_of_ble_eq_true rfl) rfl ?_
  refine g_lv [3, 2, 1, 0] rfl ?_
  exact t_Odds_reduce_13  FU _ _ _ _ _ _  hf
def f_Odds_reduce (a0 : Nat) (h : mH) : Option mH := f_Odds_reduce_0 a0 h
theorem c_Odds_reduce {sc : Nat × (Nat → Int32)} {a0 : Nat} {h : mH} {h' : mH} (hf : f_Odds_reduce a0 h = some h') : MM sc y_Odds_reduce prog_2_method_4_code 8 none 0 0 [.ref a0] h none h' :=
  mm_of_G si_pn_Odds (Nat.le_of_ble_eq_true rfl) (t_Odds_reduce_0 _ _ _ hf)
/-! Odds weigh (LQuotaLaws$Realm;I)V -/
set_option maxRecDepth 100000 in
theorem dd_Odds_weigh_0 : (decode prog_2_method_2_code 0 = .ok (.aload_n 0, 1)) ∧ (decode prog_2_method_2_code 1 = .ok (.getfield 11, 3)) ∧ (decode prog_2_method_2_code 4 = .ok (.lconst 0, 1)) ∧ (decode prog_2_method_2_code 5 = .ok (.invokestatic 15, 3)) ∧ (decode prog_2_method_2_code 8 = .ok (.aload_n 0, 1)) ∧ (decode prog_2_method_2_code 9 = .ok (.getfield 11, 3)) ∧ (decode prog_2_method_2_code 12 = .ok (.iconst 0, 1)) ∧ (decode prog_2_method_2_code 13 = .ok (.lconst 1, 1)) ∧ (decode prog_2_method_2_code 14 = .ok (.lastore, 1)) ∧ (decode prog_2_method_2_code 15 = .ok (.aload_n 0, 1)) ∧ (decode prog_2_method_2_code 16 = .ok (.lconst 1, 1)) ∧ (decode prog_2_method_2_code 17 = .ok (.putfield 21, 3)) ∧ (decode prog_2_method_2_code 20 = .ok (.iconst 0, 1)) ∧ (decode prog_2_method_2_code 21 = .ok (.istore_n 3, 1)) ∧ (decode prog_2_method_2_code 22 = .ok (.iload_n 3, 1)) ∧ (decode prog_2_method_2_code 23 = .ok (.aload_n 1, 1)) ∧ (decode prog_2_method_2_code 24 = .ok (.getfield 25, 3)) ∧ (decode prog_2_method_2_code 27 = .ok (.if_icmp .ge 43, 3)) ∧ (decode prog_2_method_2_code 30 = .ok (.aload_n 1, 1)) ∧ (decode prog_2_method_2_code 31 = .ok (.iload_n 3, 1)) ∧ (decode prog_2_method_2_code 32 = .ok (.iload_n 2, 1)) ∧ (decode prog_2_method_2_code 33 = .ok (.invokevirtual 31, 3)) ∧ (decode prog_2_method_2_code 36 = .ok (.istore 4, 2)) ∧ (decode prog_2_method_2_code 38 = .ok (.iconst 0, 1)) := by
  have h : List.drop 0 prog_2_method_2_code.data.toList = 0x2a :: _ := rfl
  refine ⟨zq_k_n 42 h rfl (zq_o_42 _), ?_⟩
  replace h := zq_nx1 (q := 1) h rfl
  refine ⟨zq_k_u2 180 (fun z => .getfield z) 11 h rfl (zq_o_180 _) (by decide +kernel), ?_⟩
  replace h := zq_nx3 (q := 4) h rfl
  refine ⟨zq_k_n 9 h rfl (zq_o_9 _), ?_⟩
  replace h := zq_nx1 (q := 5) h rfl
  refine ⟨zq_k_u2 184 (fun z => .invokestatic z) 15 h rfl (zq_o_184 _) (by decide +kernel), ?_⟩
  replace h := zq_nx3 (q := 8) h rfl
  refine ⟨zq_k_n 42 h rfl (zq_o_42 _), ?_⟩
  replace h := zq_nx1 (q := 9) h rfl
  refine ⟨zq_k_u2 180 (fun z => .getfield z) 11 h rfl (zq_o_180 _) (by decide +kernel), ?_⟩
  replace h := zq_nx3 (q := 12) h rfl
  refine ⟨zq_k_n 3 h rfl (zq_o_3 _), ?_⟩
  replace h := zq_nx1 (q := 13) h rfl
  refine ⟨zq_k_n 10 h rfl (zq_o_10 _), ?_⟩
  replace h := zq_nx1 (q := 14) h rfl
  refine ⟨zq_k_n 80 h rfl (zq_o_80 _), ?_⟩
  replace h := zq_nx1 (q := 15) h rfl
  refine ⟨zq_k_n 42 h rfl (zq_o_42 _), ?_⟩
  replace h := zq_nx1 (q := 16) h rfl
  refine ⟨zq_k_n 10 h rfl (zq_o_10 _), ?_⟩
  replace h := zq_nx1 (q := 17) h rfl
  refine ⟨zq_k_u2 181 (fun z => .putfield z) 21 h rfl (zq_o_181 _) (by decide +kernel), ?_⟩
  replace h := zq_nx3 (q := 20) h rfl
  refine ⟨zq_k_n 3 h rfl (zq_o_3 _), ?_⟩
  replace h := zq_nx1 (q := 21) h rfl
  refine ⟨zq_k_n 62 h rfl (zq_o_62 _), ?_⟩
  replace h := zq_nx1 (q := 22) h rfl
  refine ⟨zq_k_n 29 h rfl (zq_o_29 _), ?_⟩
  replace h := zq_nx1 (q := 23) h rfl
  refine ⟨zq_k_n 43 h rfl (zq_o_43 _), ?_⟩
  replace h := zq_nx1 (q := 24) h rfl
  refine ⟨zq_k_u2 180 (fun z => .getfield z) 25 h rfl (zq_o_180 _) (by decide +kernel), ?_⟩
  replace h := zq_nx3 (q := 27) h rfl
  refine ⟨zq_k_s2 162 (fun z => .if_icmp .ge z) 43 h rfl (zq_o_162 _) (by decide +kernel), ?_⟩
  replace h := zq_nx3 (q := 30) h rfl
  refine ⟨zq_k_n 43 h rfl (zq_o_43 _), ?_⟩
  replace h := zq_nx1 (q := 31) h rfl
  refine ⟨zq_k_n 29 h rfl (zq_o_29 _), ?_⟩
  replace h := zq_nx1 (q := 32) h rfl
  refine ⟨zq_k_n 28 h rfl (zq_o_28 _), ?_⟩
  replace h := zq_nx1 (q := 33) h rfl
  refine ⟨zq_k_u2 182 (fun z => .invokevirtual z) 31 h rfl (zq_o_182 _) (by decide +kernel), ?_⟩
  replace h := zq_nx3 (q := 36) h rfl
  refine ⟨zq_k_u1 54 (fun z => .istore z) 4 h rfl (zq_o_54 _) (by decide +kernel), ?_⟩
  replace h := zq_nx2 (q := 38) h rfl
  exact zq_k_n 3 h rfl (zq_o_3 _)
set_option maxRecDepth 100000 in
theorem dd_Odds_weigh_39 : (decode prog_2_method_2_code 39 = .ok (.istore 5, 2)) ∧ (decode prog_2_method_2_code 41 = .ok (.iload 5, 2)) ∧ (decode prog_2_method_2_code 43 = .ok (.iload 4, 2)) ∧ (decode prog_2_method_2_code 45 = .ok (.if_icmp .ge 19, 3)) ∧ (decode prog_2_method_2_code 48 = .ok (.aload_n 0, 1)) ∧ (decode prog_2_method_2_code 49 = .ok (.aload_n 1, 1)) ∧ (decode prog_2_method_2_code 50 = .ok (.getfield 35, 3)) ∧ (decode prog_2_method_2_code 53 = .ok (.iload_n 3, 1)) ∧ (decode prog_2_method_2_code 54 = .ok (.iaload, 1)) ∧ (decode prog_2_method_2_code 55 = .ok (.invokevirtual 39, 3)) ∧ (decode prog_2_method_2_code 58 = .ok (.iinc 5 1, 3)) ∧ (decode prog_2_method_2_code 61 = .ok (.goto (-20), 3)) ∧ (decode prog_2_method_2_code 64 = .ok (.iinc 3 1, 3)) ∧ (decode prog_2_method_2_code 67 = .ok (.goto (-45), 3)) ∧ (decode prog_2_method_2_code 70 = .ok (.aload_n 0, 1)) ∧ (decode prog_2_method_2_code 71 = .ok (.lconst 0, 1)) ∧ (decode prog_2_method_2_code 72 = .ok (.putfield 43, 3)) ∧ (decode prog_2_method_2_code 75 = .ok (.aload_n 1, 1)) ∧ (decode prog_2_method_2_code 76 = .ok (.iload_n 2, 1)) ∧ (decode prog_2_method_2_code 77 = .ok (.invokevirtual 46, 3)) ∧ (decode prog_2_method_2_code 80 = .ok (.istore_n 3, 1)) ∧ (decode prog_2_method_2_code 81 = .ok (.iload_n 3, 1)) ∧ (decode prog_2_method_2_code 82 = .ok (.bipush 9, 2)) ∧ (decode prog_2_method_2_code 84 = .ok (.if_icmp .gt 24, 3)) := by
  have h : List.drop 39 prog_2_method_2_code.data.toList = 0x36 :: _ := rfl
  refine ⟨zq_k_u1 54 (fun z => .istore z) 5 h rfl (zq_o_54 _) (by decide +kernel), ?_⟩
  replace h := zq_nx2 (q := 41) h rfl
  refine ⟨zq_k_u1 21 (fun z => .iload z) 5 h rfl (zq_o_21 _) (by decide +kernel), ?_⟩
  replace h := zq_nx2 (q := 43) h rfl
  refine ⟨zq_k_u1 21 (fun z => .iload z) 4 h rfl (zq_o_21 _) (by decide +kernel), ?_⟩
  replace h := zq_nx2 (q := 45) h rfl
  refine ⟨zq_k_s2 162 (fun z => .if_icmp .ge z) 19 h rfl (zq_o_162 _) (by decide +kernel), ?_⟩
  replace h := zq_nx3 (q := 48) h rfl
  refine ⟨zq_k_n 42 h rfl (zq_o_42 _), ?_⟩
  replace h := zq_nx1 (q := 49) h rfl
  refine ⟨zq_k_n 43 h rfl (zq_o_43 _), ?_⟩
  replace h := zq_nx1 (q := 50) h rfl
  refine ⟨zq_k_u2 180 (fun z => .getfield z) 35 h rfl (zq_o_180 _) (by decide +kernel), ?_⟩
  replace h := zq_nx3 (q := 53) h rfl
  refine ⟨zq_k_n 29 h rfl (zq_o_29 _), ?_⟩
  replace h := zq_nx1 (q := 54) h rfl
  refine ⟨zq_k_n 46 h rfl (zq_o_46 _), ?_⟩
  replace h := zq_nx1 (q := 55) h rfl
  refine ⟨zq_k_u2 182 (fun z => .invokevirtual z) 39 h rfl (zq_o_182 _) (by decide +kernel), ?_⟩
  replace h := zq_nx3 (q := 58) h rfl
  refine ⟨zq_k_iinc 5 1 h rfl (zq_o_132 _) (by decide +kernel) (by decide +kernel), ?_⟩
  replace h := zq_nx3 (q := 61) h rfl
  refine ⟨zq_k_s2 167 (fun z => .goto z) (-20) h rfl (zq_o_167 _) (by decide +kernel), ?_⟩
  replace h := zq_nx3 (q := 64) h rfl
  refine ⟨zq_k_iinc 3 1 h rfl (zq_o_132 _) (by decide +kernel) (by decide +kernel), ?_⟩
  replace h := zq_nx3 (q := 67) h rfl
  refine ⟨zq_k_s2 167 (fun z => .goto z) (-45) h rfl (zq_o_167 _) (by decide +kernel), ?_⟩
  replace h := zq_nx3 (q := 70) h rfl
  refine ⟨zq_k_n 42 h rfl (zq_o_42 _), ?_⟩
  replace h := zq_nx1 (q := 71) h rfl
  refine ⟨zq_k_n 9 h rfl (zq_o_9 _), ?_⟩
  replace h := zq_nx1 (q := 72) h rfl
  refine ⟨zq_k_u2 181 (fun z => .putfield z) 43 h rfl (zq_o_181 _) (by decide +kernel), ?_⟩
  replace h := zq_nx3 (q := 75) h rfl
  refine ⟨zq_k_n 43 h rfl (zq_o_43 _), ?_⟩
  replace h := zq_nx1 (q := 76) h rfl
  refine ⟨zq_k_n 28 h rfl (zq_o_28 _), ?_⟩
  replace h := zq_nx1 (q := 77) h rfl
  refine ⟨zq_k_u2 182 (fun z => .invokevirtual z) 46 h rfl (zq_o_182 _) (by decide +kernel), ?_⟩
  replace h := zq_nx3 (q := 80) h rfl
  refine ⟨zq_k_n 62 h rfl (zq_o_62 _), ?_⟩
  replace h := zq_nx1 (q := 81) h rfl
  refine ⟨zq_k_n 29 h rfl (zq_o_29 _), ?_⟩
  replace h := zq_nx1 (q := 82) h rfl
  refine ⟨zq_k_s1 16 (fun z => .bipush z) 9 h rfl (zq_o_16 _) (by decide +kernel), ?_⟩
  replace h := zq_nx2 (q := 84) h rfl
  exact zq_k_s2 163 (fun z => .if_icmp .gt z) 24 h rfl (zq_o_163 _) (by decide +kernel)
set_option maxRecDepth 100000 in
theorem dd_Odds_weigh_87 : (decode prog_2_method_2_code 87 = .ok (.aload_n 0, 1)) ∧ (decode prog_2_method_2_code 88 = .ok (.dup, 1)) ∧ (decode prog_2_method_2_code 89 = .ok (.getfield 43, 3)) ∧ (decode prog_2_method_2_code 92 = .ok (.aload_n 0, 1)) ∧ (decode prog_2_method_2_code 93 = .ok (.getfield 11, 3)) ∧ (decode prog_2_method_2_code 96 = .ok (.iload_n 3, 1)) ∧ (decode prog_2_method_2_code 97 = .ok (.laload, 1)) ∧ (decode prog_2_method_2_code 98 = .ok (.ladd, 1)) ∧ (decode prog_2_method_2_code 99 = .ok (.putfield 43, 3)) ∧ (decode prog_2_method_2_code 102 = .ok (.iinc 3 1, 3)) ∧ (decode prog_2_method_2_code 105 = .ok (.goto (-24), 3)) ∧ (decode prog_2_method_2_code 108 = .ok (.aload_n 0, 1)) ∧ (decode prog_2_method_2_code 109 = .ok (.invokevirtual 50, 3)) ∧ (decode prog_2_method_2_code 112 = .ok (.return_, 1)) := by
  have h : List.drop 87 prog_2_method_2_code.data.toList = 0x2a :: _ := rfl
  refine ⟨zq_k_n 42 h rfl (zq_o_42 _), ?_⟩
  replace h := zq_nx1 (q := 88) h rfl
  refine ⟨zq_k_n 89 h rfl (zq_o_89 _), ?_⟩
  replace h := zq_nx1 (q := 89) h rfl
  refine ⟨zq_k_u2 180 (fun z => .getfield z) 43 h rfl (zq_o_180 _) (by decide +kernel), ?_⟩
  replace h := zq_nx3 (q := 92) h rfl
  refine ⟨zq_k_n 42 h rfl (zq_o_42 _), ?_⟩
  replace h := zq_nx1 (q := 93) h rfl
  refine ⟨zq_k_u2 180 (fun z => .getfield z) 11 h rfl (zq_o_180 _) (by decide +kernel), ?_⟩
  replace h := zq_nx3 (q := 96) h rfl
  refine ⟨zq_k_n 29 h rfl (zq_o_29 _), ?_⟩
  replace h := zq_nx1 (q := 97) h rfl
  refine ⟨zq_k_n 47 h rfl (zq_o_47 _), ?_⟩
  replace h := zq_nx1 (q := 98) h rfl
  refine ⟨zq_k_n 97 h rfl (zq_o_97 _), ?_⟩
  replace h := zq_nx1 (q := 99) h rfl
  refine ⟨zq_k_u2 181 (fun z => .putfield z) 43 h rfl (zq_o_181 _) (by decide +kernel), ?_⟩
  replace h := zq_nx3 (q := 102) h rfl
  refine ⟨zq_k_iinc 3 1 h rfl (zq_o_132 _) (by decide +kernel) (by decide +kernel), ?_⟩
  replace h := zq_nx3 (q := 105) h rfl
  refine ⟨zq_k_s2 167 (fun z => .goto z) (-24) h rfl (zq_o_167 _) (by decide +kernel), ?_⟩
  replace h := zq_nx3 (q := 108) h rfl
  refine ⟨zq_k_n 42 h rfl (zq_o_42 _), ?_⟩
  replace h := zq_nx1 (q := 109) h rfl
  refine ⟨zq_k_u2 182 (fun z => .invokevirtual z) 50 h rfl (zq_o_182 _) (by decide +kernel), ?_⟩
  replace h := zq_nx3 (q := 112) h rfl
  exact zq_k_n 177 h rfl (zq_o_177 _)
def f_Odds_weigh_81b (rec81 : Nat → Int32 → mH → Option mH) (b0 : Nat) (b3 : Int32) (h : mH) : Option mH :=
  if (9 : Int32) < b3 then
    bd1 (kC h b0 1) fun _ =>
    bd1 (f_Odds_reduce b0 h) fun h37 =>
    some h37
  else
    bd1 (gL h b0 1 0) fun x39 =>
    bd1 (gR h b0 1 2) fun x41 =>
    bd1 (aL h x41 b3) fun x43 =>
    bd1 (pV h b0 1 0 (.long (x39 + x43))) fun h45 =>
    rec81 b0 (b3 + (1 : Int32)) h45
set_option maxRecDepth 20000 in
theorem t_Odds_weigh_81b {sc : Nat × (Nat → Int32)} (rec81 : Nat → Int32 → mH → Option mH) (hrec81 : ∀ (b0 : Nat) (b3 : Int32) (h : mH) (h' : mH), rec81 b0 b3 h = some h' → G sc y_Odds_weigh prog_2_method_2_code 6 none 3 67 81 [(0, .ref b0), (3, .int b3)] [] h none h') (b0 : Nat) (b3 : Int32) (h : mH) (h' : mH) (hf : f_Odds_weigh_81b rec81 b0 b3 h = some h') : G sc y_Odds_weigh prog_2_method_2_code 6 none 3 67 81 [(0, .ref b0), (3, .int b3)] [] h none h' := by
  unfold f_Odds_weigh_81b at hf
  refine g_iload_n (pc := 81) 1 dd_Odds_weigh_39.2.2.2.2.2.2.2.2.2.2.2.2.2.2.2.2.2.2.2.2.2.1 rfl rfl ?_
  refine g_bipush (pc := 82) (9 : Int32) dd_Odds_weigh_39.2.2.2.2.2.2.2.2.2.2.2.2.2.2.2.2.2.2.2.2.2.2.1 (by decide) ?_
  refine g_icmpgt (pc := 84) 108 dd_Odds_weigh_39.2.2.2.2.2.2.2.2.2.2.2.2.2.2.2.2.2.2.2.2.2.2.2 (by decide) (fun c47 => ?_) (fun c47 => ?_)
  · replace hf := (if_pos c47).symm.trans hf
    refine g_aload_n (pc := 108) 0 dd_Odds_weigh_87.2.2.2.2.2.2.2.2.2.2.2.1 rfl rfl ?_
    obtain ⟨u36, e35, hf⟩ := bd1_e hf
    obtain ⟨h37, e38, hf⟩ := bd1_e hf
    refine g_callV (pc := 109) (ci := 1) [] (site_of si_Odds_reduce (by decide) (by decide)) wd_764 wd_766 wp_22 dd_Odds_weigh_87.2.2.2.2.2.2.2.2.2.2.2.2.1 rfl e35 (Nat.le_of_ble_eq_true rfl) (fun z => absurd z si_na_Odds_reduce) (fun z => absurd z si_na_Odds_reduce) (fun z => absurd z si_na_Odds_reduce) (c_Odds_reduce e38) rfl ?_
    refine g_st [] rfl ?_
    obtain rfl := ret1 hf
    exact g_vret (pc := 112) rfl dd_Odds_weigh_87.2.2.2.2.2.2.2.2.2.2.2.2.2
  · replace hf := (if_neg c47).symm.trans hf
    refine g_aload_n (pc := 87) 0 dd_Odds_weigh_87.1 rfl rfl ?_
    refine g_dup (pc := 88) dd_Odds_weigh_87.2.1 rfl ?_
    obtain ⟨x39, e40, hf⟩ := bd1_e hf
    refine g_get (pc := 89) (ci := 1) (kk := 0) dd_Odds_weigh_87.2.2.1 rfl in_Odds (by decide) wd_268 (gL_spec e40) ?_
    refine g_aload_n (pc := 92) 0 dd_Odds_weigh_87.2.2.2.1 rfl rfl ?_
    obtain ⟨x41, e42, hf⟩ := bd1_e hf
    refine g_get (pc := 93) (ci := 1) (kk := 2) dd_Odds_weigh_87.2.2.2.2.1 rfl in_Odds (by decide) wd_272 (gR_spec e42) ?_
    refine g_iload_n (pc := 96) 1 dd_Odds_weigh_87.2.2.2.2.2.1 rfl rfl ?_
    obtain ⟨x43, e44, hf⟩ := bd1_e hf
    refine g_lald (pc := 97) dd_Odds_weigh_87.2.2.2.2.2.2.1 e44 ?_
    refine g_ladd (pc := 98) dd_Odds_weigh_87.2.2.2.2.2.2.2.1 ?_
    obtain ⟨h45, e46, hf⟩ := bd1_e hf
    refine g_put (pc := 99) (ci := 1) (kk := 0) ty_Odds tyok_Odds nm_Odds dd_Odds_weigh_87.2.2.2.2.2.2.2.2.1 rfl in_Odds (by decide) wd_268 rfl (fun _ => rfl) (fun _ => rfl) (fun _ z => by cases z) e46 ?_
    refine g_iinc (pc := 102) 1 (b3 + (1 : Int32)) [(3, .int (b3 + (1 : Int32))), (0, .ref b0)] dd_Odds_weigh_87.2.2.2.2.2.2.2.2.2.1 rfl rfl (Nat.le_of_ble_eq_true rfl) rfl ?_
    refine g_goto (pc := 105) 81 dd_Odds_weigh_87.2.2.2.2.2.2.2.2.2.2.1 (by decide) ?_
    refine g_lv [1, 0] rfl ?_
    exact hrec81 _ _ _ _  hf
def f_Odds_weigh_81  : Nat → Nat → Int32 → mH → Option mH
  | 0 => fun _ _ _ => none
  | n + 1 => f_Odds_weigh_81b  (f_Odds_weigh_81  n)
theorem t_Odds_weigh_81 {sc : Nat × (Nat → Int32)}  : ∀ (n : Nat) (b0 : Nat) (b3 : Int32) (h : mH) (h' : mH) (hf : f_Odds_weigh_81  n b0 b3 h = some h'), G sc y_Odds_weigh prog_2_method_2_code 6 none 3 67 81 [(0, .ref b0), (3, .int b3)] [] h none h'
  | 0, _, _, _, _, hf => by cases hf
  | n + 1, _, _, _, _, hf => t_Odds_weigh_81b  (f_Odds_weigh_81  n) (t_Odds_weigh_81  n) _ _ _ _ hf
def f_Odds_weigh_41b (rec22 : Nat → Nat → Int32 → Int32 → mH → Option mH) (rec41 : Nat → Nat → Int32 → Int32 → Int32 → Int32 → mH → Option mH) (b0 : Nat) (b1 : Nat) (b2 : Int32) (b3 : Int32) (b4 : Int32) (b5 : Int32) (h : mH) : Option mH :=
  if b4 ≤ b5 then
    rec22 b0 b1 b2 (b3 + (1 : Int32)) h
  else
    bd1 (gR h b1 4 13) fun x26 =>
    bd1 (aI h 0 x26 b3) fun x28 =>
    bd1 (kC h b0 1) fun _ =>
    bd1 (f_Odds_addTry b0 x28 h) fun h32 =>
    rec41 b0 b1 b2 b3 b4 (b5 + (1 : Int32)) h32
set_option maxRecDepth 20000 in
theorem t_Odds_weigh_41b {sc : Nat × (Nat → Int32)} (rec22 : Nat → Nat → Int32 → Int32 → mH → Option mH) (hrec22 : ∀ (b0 : Nat) (b1 : Nat) (b2 : Int32) (b3 : Int32) (h : mH) (h' : mH), rec22 b0 b1 b2 b3 h = some h' → G sc y_Odds_weigh prog_2_method_2_code 6 none 3 67 22 [(0, .ref b0), (1, .ref b1), (2, .int b2), (3, .int b3)] [] h none h') (rec41 : Nat → Nat → Int32 → Int32 → Int32 → Int32 → mH → Option mH) (hrec41 : ∀ (b0 : Nat) (b1 : Nat) (b2 : Int32) (b3 : Int32) (b4 : Int32) (b5 : Int32) (h : mH) (h' : mH), rec41 b0 b1 b2 b3 b4 b5 h = some h' → G sc y_Odds_weigh prog_2_method_2_code 6 none 3 67 41 [(0, .ref b0), (1, .ref b1), (2, .int b2), (3, .int b3), (4, .int b4), (5, .int b5)] [] h none h') (b0 : Nat) (b1 : Nat) (b2 : Int32) (b3 : Int32) (b4 : Int32) (b5 : Int32) (h : mH) (h' : mH) (hf : f_Odds_weigh_41b rec22 rec41 b0 b1 b2 b3 b4 b5 h = some h') : G sc y_Odds_weigh prog_2_method_2_code 6 none 3 67 41 [(0, .ref b0), (1, .ref b1), (2, .int b2), (3, .int b3), (4, .int b4), (5, .int b5)] [] h none h' := by
  unfold f_Odds_weigh_41b at hf
  refine g_iload (pc := 41) 5 dd_Odds_weigh_39.2.1 rfl ?_
  refine g_iload (pc := 43) 4 dd_Odds_weigh_39.2.2.1 rfl ?_
  refine g_icmpge (pc := 45) 64 dd_Odds_weigh_39.2.2.2.1 (by decide) (fun c34 => ?_) (fun c34 => ?_)
  · replace hf := (if_pos c34).symm.trans hf
    refine g_iinc (pc := 64) 3 (b3 + (1 : Int32)) [(3, .int (b3 + (1 : Int32))), (0, .ref b0), (1, .ref b1), (2, .int b2), (4, .int b4), (5, .int b5)] dd_Odds_weigh_39.2.2.2.2.2.2.2.2.2.2.2.2.1 rfl rfl (Nat.le_of_ble_eq_true rfl) rfl ?_
    refine g_goto (pc := 67) 22 dd_Odds_weigh_39.2.2.2.2.2.2.2.2.2.2.2.2.2.1 (by decide) ?_
    refine g_lv [1, 2, 3, 0] rfl ?_
    exact hrec22 _ _ _ _ _ _  hf
  · replace hf := (if_neg c34).symm.trans hf
    refine g_aload_n (pc := 48) 0 dd_Odds_weigh_39.2.2.2.2.1 rfl rfl ?_
    refine g_aload_n (pc := 49) 1 dd_Odds_weigh_39.2.2.2.2.2.1 rfl rfl ?_
    obtain ⟨x26, e27, hf⟩ := bd1_e hf
    refine g_get (pc := 50) (ci := 4) (kk := 13) dd_Odds_weigh_39.2.2.2.2.2.2.1 rfl in_Realm (by decide) wd_139 (gR_spec e27) ?_
    refine g_iload_n (pc := 53) 3 dd_Odds_weigh_39.2.2.2.2.2.2.2.1 rfl rfl ?_
    obtain ⟨x28, e29, hf⟩ := bd1_e hf
    refine g_iald (pc := 54) dd_Odds_weigh_39.2.2.2.2.2.2.2.2.1 e29 ?_
    obtain ⟨u31, e30, hf⟩ := bd1_e hf
    obtain ⟨h32, e33, hf⟩ := bd1_e hf
    refine g_callV (pc := 55) (ci := 1) [.int x28] (site_of si_Odds_addTry (by decide) (by decide)) wd_758 wd_760 wp_21 dd_Odds_weigh_39.2.2.2.2.2.2.2.2.2.1 rfl e30 (Nat.le_of_ble_eq_true rfl) (fun z => absurd z si_na_Odds_addTry) (fun z => absurd z si_na_Odds_addTry) (fun z => absurd z si_na_Odds_addTry) (c_Odds_addTry e33) rfl ?_
    refine g_st [] rfl ?_
    refine g_iinc (pc := 58) 5 (b5 + (1 : Int32)) [(5, .int (b5 + (1 : Int32))), (0, .ref b0), (1, .ref b1), (2, .int b2), (3, .int b3), (4, .int b4)] dd_Odds_weigh_39.2.2.2.2.2.2.2.2.2.2.1 rfl rfl (Nat.le_of_ble_eq_true rfl) rfl ?_
    refine g_goto (pc := 61) 41 dd_Odds_weigh_39.2.2.2.2.2.2.2.2.2.2.2.1 (by decide) ?_
    refine g_lv [1, 2, 3, 4, 5, 0] rfl ?_
    exact hrec41 _ _ _ _ _ _ _ _  hf
def f_Odds_weigh_41 (rec22 : Nat → Nat → Int32 → Int32 → mH → Option mH) : Nat → Nat → Nat → Int32 → Int32 → Int32 → Int32 → mH → Option mH
  | 0 => fun _ _ _ _ _ _ _ => none
  | n + 1 => f_Odds_weigh_41b rec22 (f_Odds_weigh_41 rec22 n)
theorem t_Odds_weigh_41 {sc : Nat × (Nat → Int32)} (rec22 : Nat → Nat → Int32 → Int32 → mH → Option mH) (hrec22 : ∀ (b0 : Nat) (b1 : Nat) (b2 : Int32) (b3 : Int32) (h : mH) (h' : mH), rec22 b0 b1 b2 b3 h = some h' → G sc y_Odds_weigh prog_2_method_2_code 6 none 3 67 22 [(0, .ref b0), (1, .ref b1), (2, .int b2), (3, .int b3)] [] h none h') : ∀ (n : Nat) (b0 : Nat) (b1 : Nat) (b2 : Int32) (b3 : Int32) (b4 : Int32) (b5 : Int32) (h : mH) (h' : mH) (hf : f_Odds_weigh_41 rec22 n b0 b1 b2 b3 b4 b5 h = some h'), G sc y_Odds_weigh prog_2_method_2_code 6 none 3 67 41 [(0, .ref b0), (1, .ref b1), (2, .int b2), (3, .int b3), (4, .int b4), (5, .int b5)] [] h none h'
  | 0, _, _, _, _, _, _, _, _, hf => by cases hf
  | n + 1, _, _, _, _, _, _, _, _, hf => t_Odds_weigh_41b rec22 hrec22 (f_Odds_weigh_41 rec22 n) (t_Odds_weigh_41 rec22 hrec22 n) _ _ _ _ _ _ _ _ hf
def f_Odds_weigh_22b (rec22 : Nat → Nat → Int32 → Int32 → mH → Option mH) (b0 : Nat) (b1 : Nat) (b2 : Int32) (b3 : Int32) (h : mH) : Option mH :=
  bd1 (gI h b1 4 1) fun x11 =>
  if x11 ≤ b3 then
    bd1 (pV h b0 1 0 (.long (0 : Int64))) fun h13 =>
    bd1 (kC h13 b1 4) fun _ =>
    bd2 (f_Realm_needOf b1 b2 h13) fun x19 h17 =>
    f_Odds_weigh_81  FU b0 x19 h17
  else
    bd1 (kC h b1 4) fun _ =>
    bd2 (f_Realm_ableAlone b1 b3 b2 h) fun x24 h22 =>
    f_Odds_weigh_41 rec22 FU b0 b1 b2 b3 x24 (0 : Int32) h22
set_option maxRecDepth 20000 in
theorem t_Odds_weigh_22b {sc : Nat × (Nat → Int32)} (rec22 : Nat → Nat → Int32 → Int32 → mH → Option mH) (hrec22 : ∀ (b0 : Nat) (b1 : Nat) (b2 : Int32) (b3 : Int32) (h : mH) (h' : mH), rec22 b0 b1 b2 b3 h = some h' → G sc y_Odds_weigh prog_2_method_2_code 6 none 3 67 22 [(0, .ref b0), (1, .ref b1), (2, .int b2), (3, .int b3)] [] h none h') (b0 : Nat) (b1 : Nat) (b2 : Int32) (b3 : Int32) (h : mH) (h' : mH) (hf : f_Odds_weigh_22b rec22 b0 b1 b2 b3 h = some h') : G sc y_Odds_weigh prog_2_method_2_code 6 none 3 67 22 [(0, .ref b0), (1, .ref b1), (2, .int b2), (3, .int b3)] [] h none h' := by
  unfold f_Odds_weigh_22b at hf
  refine g_iload_n (pc := 22) 3 dd_Odds_weigh_0.2.2.2.2.2.2.2.2.2.2.2.2.2.2.1 rfl rfl ?_
  refine g_aload_n (pc := 23) 1 dd_Odds_weigh_0.2.2.2.2.2.2.2.2.2.2.2.2.2.2.2.1 rfl rfl ?_
  obtain ⟨x11, e12, hf⟩ := bd1_e hf
  refine g_get (pc := 24) (ci := 4) (kk := 1) dd_Odds_weigh_0.2.2.2.2.2.2.2.2.2.2.2.2.2.2.2.2.1 rfl in_Realm (by decide) wd_99 (gI_spec e12) ?_
  refine g_icmpge (pc := 27) 70 dd_Odds_weigh_0.2.2.2.2.2.2.2.2.2.2.2.2.2.2.2.2.2.1 (by decide) (fun c25 => ?_) (fun c25 => ?_)
  · replace hf := (if_pos c25).symm.trans hf
    refine g_aload_n (pc := 70) 0 dd_Odds_weigh_39.2.2.2.2.2.2.2.2.2.2.2.2.2.2.1 rfl rfl ?_
    refine g_lconst (pc := 71) (0 : Int64) dd_Odds_weigh_39.2.2.2.2.2.2.2.2.2.2.2.2.2.2.2.1 (by decide) ?_
    obtain ⟨h13, e14, hf⟩ := bd1_e hf
    refine g_put (pc := 72) (ci := 1) (kk := 0) ty_Odds tyok_Odds nm_Odds dd_Odds_weigh_39.2.2.2.2.2.2.2.2.2.2.2.2.2.2.2.2.1 rfl in_Odds (by decide) wd_268 rfl (fun _ => rfl) (fun _ => rfl) (fun _ z => by cases z) e14 ?_
    refine g_aload_n (pc := 75) 1 dd_Odds_weigh_39.2.2.2.2.2.2.2.2.2.2.2.2.2.2.2.2.2.1 rfl rfl ?_
    refine g_iload_n (pc := 76) 2 dd_Odds_weigh_39.2.2.2.2.2.2.2.2.2.2.2.2.2.2.2.2.2.2.1 rfl rfl ?_
    obtain ⟨u16, e15, hf⟩ := bd1_e hf
    obtain ⟨x19, h17, e18, hf⟩ := bd2_e hf
    refine g_callV (pc := 77) (ci := 4) [.int b2] (site_of si_Realm_needOf (by decide) (by decide)) wd_763 wd_521 wd_522 dd_Odds_weigh_39.2.2.2.2.2.2.2.2.2.2.2.2.2.2.2.2.2.2.2.1 rfl e15 (Nat.le_of_ble_eq_true rfl) (fun z => absurd z si_na_Realm_needOf) (fun z => absurd z si_na_Realm_needOf) (fun z => absurd z si_na_Realm_needOf) (c_Realm_needOf e18) rfl ?_
    refine g_st [.int x19] rfl ?_
    refine g_istore_n (pc := 80) [(3, .int x19), (0, .ref b0), (1, .ref b1), (2, .int b2)] dd_Odds_weigh_39.2.2.2.2.2.2.2.2.2.2.2.2.2.2.2.2.2.2.2.2.1 rfl (Nat.le_of_ble_eq_true rfl) rfl ?_
    refine g_lv [1, 0] rfl ?_
    exact t_Odds_weigh_81  FU _ _ _ _  hf
  · replace hf := (if_neg c25).symm.trans hf
    refine g_aload_n (pc := 30) 1 dd_Odds_weigh_0.2.2.2.2.2.2.2.2.2.2.2.2.2.2.2.2.2.2.1 rfl rfl ?_
    refine g_iload_n (pc := 31) 3 dd_Odds_weigh_0.2.2.2.2.2.2.2.2.2.2.2.2.2.2.2.2.2.2.2.1 rfl rfl ?_
    refine g_iload_n (pc := 32) 2 dd_Odds_weigh_0.2.2.2.2.2.2.2.2.2.2.2.2.2.2.2.2.2.2.2.2.1 rfl rfl ?_
    obtain ⟨u21, e20, hf⟩ := bd1_e hf
    obtain ⟨x24, h22, e23, hf⟩ := bd2_e hf
    refine g_callV (pc := 33) (ci := 4) [.int b3, .int b2] (site_of si_Realm_ableAlone (by decide) (by decide)) wd_757 wd_551 wd_552 dd_Odds_weigh_0.2.2.2.2.2.2.2.2.2.2.2.2.2.2.2.2.2.2.2.2.2.1 rfl e20 (Nat.le_of_ble_eq_true rfl) (fun z => absurd z si_na_Realm_ableAlone) (fun z => absurd z si_na_Realm_ableAlone) (fun z => absurd z si_na_Realm_ableAlone) (c_Realm_ableAlone e23) rfl ?_
    refine g_st [.int x24] rfl ?_
    refine g_istore (pc := 36) [(4, .int x24), (0, .ref b0), (1, .ref b1), (2, .int b2), (3, .int b3)] dd_Odds_weigh_0.2.2.2.2.2.2.2.2.2.2.2.2.2.2.2.2.2.2.2.2.2.2.1 (Nat.le_of_ble_eq_true rfl) rfl ?_
    refine g_iconst (pc := 38) (0 : Int32) dd_Odds_weigh_0.2.2.2.2.2.2.2.2.2.2.2.2.2.2.2.2.2.2.2.2.2.2.2 (by decide) ?_
    refine g_istore (pc := 39) [(5, .int (0 : Int32)), (4, .int x24), (0, .ref b0), (1, .ref b1), (2, .int b2), (3, .int b3)] dd_Odds_weigh_39.1 (Nat.le_of_ble_eq_true rfl) rfl ?_
    refine g_lv [2, 3, 4, 5, 1, 0] rfl ?_
    exact t_Odds_weigh_41 rec22 hrec22 FU _ _ _ _ _ _ _ _  hf
def f_Odds_weigh_22  : Nat → Nat → Nat → Int32 → Int32 → mH → Option mH
  | 0 => fun _ _ _ _ _ => none
  | n + 1 => f_Odds_weigh_22b  (f_Odds_weigh_22  n)
theorem t_Odds_weigh_22 {sc : Nat × (Nat → Int32)}  : ∀ (n : Nat) (b0 : Nat) (b1 : Nat) (b2 : Int32) (b3 : Int32) (h : mH) (h' : mH) (hf : f_Odds_weigh_22  n b0 b1 b2 b3 h = some h'), G sc y_Odds_weigh prog_2_method_2_code 6 none 3 67 22 [(0, .ref b0), (1, .ref b1), (2, .int b2), (3, .int b3)] [] h none h'
  | 0, _, _, _, _, _, _, hf => by cases hf
  | n + 1, _, _, _, _, _, _, hf => t_Odds_weigh_22b  (f_Odds_weigh_22  n) (t_Odds_weigh_22  n) _ _ _ _ _ _ hf
def f_Odds_weigh_0  (a0 : Nat) (a1 : Nat) (a2 : Int32) (h : mH) : Option mH :=
  bd1 (gR h a0 1 2) fun x1 =>
  bd1 (f_Arrays_fillJ x1 (0 : Int64) h) fun h3 =>
  bd1 (gR h3 a0 1 2) fun x5 =>
  bd1 (sL h3 x5 (0 : Int32) (1 : Int64)) fun h7 =>
  bd1 (pV h7 a0 1 1 (.long (1 : Int64))) fun h9 =>
  f_Odds_weigh_22  FU a0 a1 a2 (0 : Int32) h9
set_option maxRecDepth 20000 in
theorem t_Odds_weigh_0 {sc : Nat × (Nat → Int32)}  (a0 : Nat) (a1 : Nat) (a2 : Int32) (h : mH) (h' : mH) (hf : f_Odds_weigh_0  a0 a1 a2 h = some h') : G sc y_Odds_weigh prog_2_method_2_code 6 none 3 67 0 [(0, .ref a0), (1, .ref a1), (2, .int a2)] [] h none h' := by
  unfold f_Odds_weigh_0 at hf
  refine g_aload_n (pc := 0) 0 dd_Odds_weigh_0.1 rfl rfl ?_
  obtain ⟨x1, e2, hf⟩ := bd1_e hf
  refine g_get (pc := 1) (ci := 1) (kk := 2) dd_Odds_weigh_0.2.1 rfl in_Odds (by decide) wd_272 (gR_spec e2) ?_
  refine g_lconst (pc := 4) (0 : Int64) dd_Odds_weigh_0.2.2.1 (by decide) ?_
  obtain ⟨h3, e4, hf⟩ := bd1_e hf
  refine g_callS (pc := 5) [.ref x1, .long (0 : Int64)] (site_of si_Arrays_fillJ (by decide) (by decide)) wd_754 wd_755 dd_Odds_weigh_0.2.2.2.1 (Nat.le_of_ble_eq_true rfl) (fun z => absurd z si_na_Arrays_fillJ) (fun z => absurd z si_na_Arrays_fillJ) (fun z => absurd z si_na_Arrays_fillJ) (c_Arrays_fillJ e4) rfl ?_
  refine g_st [] rfl ?_
  refine g_aload_n (pc := 8) 0 dd_Odds_weigh_0.2.2.2.2.1 rfl rfl ?_
  obtain ⟨x5, e6, hf⟩ := bd1_e hf
  refine g_get (pc := 9) (ci := 1) (kk := 2) dd_Odds_weigh_0.2.2.2.2.2.1 rfl in_Odds (by decide) wd_272 (gR_spec e6) ?_
  refine g_iconst (pc := 12) (0 : Int32) dd_Odds_weigh_0.2.2.2.2.2.2.1 (by decide) ?_
  refine g_lconst (pc := 13) (1 : Int64) dd_Odds_weigh_0.2.2.2.2.2.2.2.1 (by decide) ?_
  obtain ⟨h7, e8, hf⟩ := bd1_e hf
  refine g_last (pc := 14) dd_Odds_weigh_0.2.2.2.2.2.2.2.2.1 e8 ?_
  refine g_aload_n (pc := 15) 0 dd_Odds_weigh_0.2.2.2.2.2.2.2.2.2.1 rfl rfl ?_
  refine g_lconst (pc := 16) (1 : Int64) dd_Odds_weigh_0.2.2.2.2.2.2.2.2.2.2.1 (by decide) ?_
  obtain ⟨h9, e10, hf⟩ := bd1_e hf
  refine g_put (pc := 17) (ci := 1) (kk := 1) ty_Odds tyok_Odds nm_Odds dd_Odds_weigh_0.2.2.2.2.2.2.2.2.2.2.2.1 rfl in_Odds (by decide) wd_270 rfl (fun _ => rfl) (fun _ => rfl) (fun _ z => by cases z) e10 ?_
  refine g_iconst (pc := 20) (0 : Int32) dd_Odds_weigh_0.2.2.2.2.2.2.2.2.2.2.2.2.1 (by decide) ?_
  refine g_istore_n (pc := 21) [(3, .int (0 : Int32)), (0, .ref a0), (1, .ref a1), (2, .int a2)] dd_Odds_weigh_0.2.2.2.2.2.2.2.2.2.2.2.2.2.1 rfl (Nat.le_of_ble_eq_true rfl) rfl ?_
  refine g_lv [1, 2, 3, 0] rfl ?_
  exact t_Odds_weigh_22  FU _ _ _ _ _ _  hf
def f_Odds_weigh (a0 : Nat) (a1 : Nat) (a2 : Int32) (h : mH) : Option mH := f_Odds_weigh_0 a0 a1 a2 h
theorem c_Odds_weigh {sc : Nat × (Nat → Int32)} {a0 : Nat} {a1 : Nat} {a2 : Int32} {h : mH} {h' : mH} (hf : f_Odds_weigh a0 a1 a2 h = some h') : MM sc y_Odds_weigh prog_2_method_2_code 6 none 3 67 [.ref a0, .ref a1, .int a2] h none h' :=
  mm_of_G si_pn_Odds (Nat.le_of_ble_eq_true rfl) (t_Odds_weigh_0 _ _ _ _ _ hf)
/-! Q luck (II)J -/
set_option maxRecDepth 100000 in
theorem dd_Q_luck_0 : (decode prog_1_method_27_code 0 = .ok (.aload_n 0, 1)) ∧ (decode prog_1_method_27_code 1 = .ok (.getfield 19, 3)) ∧ (decode prog_1_method_27_code 4 = .ok (.iload_n 1, 1)) ∧ (decode prog_1_method_27_code 5 = .ok (.invokevirtual 109, 3)) ∧ (decode prog_1_method_27_code 8 = .ok (.ifCond .eq 12, 3)) ∧ (decode prog_1_method_27_code 11 = .ok (.iload_n 2, 1)) ∧ (decode prog_1_method_27_code 12 = .ok (.iconst 0, 1)) ∧ (decode prog_1_method_27_code 13 = .ok (.iconst 1, 1)) ∧ (decode prog_1_method_27_code 14 = .ok (.invokestatic 62, 3)) ∧ (decode prog_1_method_27_code 17 = .ok (.ifCond .ne 7, 3)) ∧ (decode prog_1_method_27_code 20 = .ok (.ldc2_w 223, 3)) ∧ (decode prog_1_method_27_code 23 = .ok (.lreturn, 1)) ∧ (decode prog_1_method_27_code 24 = .ok (.aload_n 0, 1)) ∧ (decode prog_1_method_27_code 25 = .ok (.getfield 57, 3)) ∧ (decode prog_1_method_27_code 28 = .ok (.aload_n 0, 1)) ∧ (decode prog_1_method_27_code 29 = .ok (.getfield 19, 3)) ∧ (decode prog_1_method_27_code 32 = .ok (.iload_n 1, 1)) ∧ (decode prog_1_method_27_code 33 = .ok (.invokevirtual 225, 3)) ∧ (decode prog_1_method_27_code 36 = .ok (.iload_n 2, 1)) ∧ (decode prog_1_method_27_code 37 = .ok (.ifCond .ne 13, 3)) ∧ (decode prog_1_method_27_code 40 = .ok (.aload_n 0, 1)) ∧ (decode prog_1_method_27_code 41 = .ok (.getfield 57, 3)) ∧ (decode prog_1_method_27_code 44 = .ok (.getfield 229, 3)) ∧ (decode prog_1_method_27_code 47 = .ok (.goto 10, 3)) := by
  have h : List.drop 0 prog_1_method_27_code.data.toList = 0x2a :: _ := rfl
  refine ⟨zq_k_n 42 h rfl (zq_o_42 _), ?_⟩
  replace h := zq_nx1 (q := 1) h rfl
  refine ⟨zq_k_u2 180 (fun z => .getfield z) 19 h rfl (zq_o_180 _) (by decide +kernel), ?_⟩
  replace h := zq_nx3 (q := 4) h rfl
  refine ⟨zq_k_n 27 h rfl (zq_o_27 _), ?_⟩
  replace h := zq_nx1 (q := 5) h rfl
  refine ⟨zq_k_u2 182 (fun z => .invokevirtual z) 109 h rfl (zq_o_182 _) (by decide +kernel), ?_⟩
  replace h := zq_nx3 (q := 8) h rfl
  refine ⟨zq_k_s2 153 (fun z => .ifCond .eq z) 12 h rfl (zq_o_153 _) (by decide +kernel), ?_⟩
  replace h := zq_nx3 (q := 11) h rfl
  refine ⟨zq_k_n 28 h rfl (zq_o_28 _), ?_⟩
  replace h := zq_nx1 (q := 12) h rfl
  refine ⟨zq_k_n 3 h rfl (zq_o_3 _), ?_⟩
  replace h := zq_nx1 (q := 13) h rfl
  refine ⟨zq_k_n 4 h rfl (zq_o_4 _), ?_⟩
  replace h := zq_nx1 (q := 14) h rfl
  refine ⟨zq_k_u2 184 (fun z => .invokestatic z) 62 h rfl (zq_o_184 _) (by decide +kernel), ?_⟩
  replace h := zq_nx3 (q := 17) h rfl
  refine ⟨zq_k_s2 154 (fun z => .ifCond .ne z) 7 h rfl (zq_o_154 _) (by decide +kernel), ?_⟩
  replace h := zq_nx3 (q := 20) h rfl
  refine ⟨zq_k_u2 20 (fun z => .ldc2_w z) 223 h rfl (zq_o_20 _) (by decide +kernel), ?_⟩
  replace h := zq_nx3 (q := 23) h rfl
  refine ⟨zq_k_n 173 h rfl (zq_o_173 _), ?_⟩
  replace h := zq_nx1 (q := 24) h rfl
  refine ⟨zq_k_n 42 h rfl (zq_o_42 _), ?_⟩
  replace h := zq_nx1 (q := 25) h rfl
  refine ⟨zq_k_u2 180 (fun z => .getfield z) 57 h rfl (zq_o_180 _) (by decide +kernel), ?_⟩
  replace h := zq_nx3 (q := 28) h rfl
  refine ⟨zq_k_n 42 h rfl (zq_o_42 _), ?_⟩
  replace h := zq_nx1 (q := 29) h rfl
  refine ⟨zq_k_u2 180 (fun z => .getfield z) 19 h rfl (zq_o_180 _) (by decide +kernel), ?_⟩
  replace h := zq_nx3 (q := 32) h rfl
  refine ⟨zq_k_n 27 h rfl (zq_o_27 _), ?_⟩
  replace h := zq_nx1 (q := 33) h rfl
  refine ⟨zq_k_u2 182 (fun z => .invokevirtual z) 225 h rfl (zq_o_182 _) (by decide +kernel), ?_⟩
  replace h := zq_nx3 (q := 36) h rfl
  refine ⟨zq_k_n 28 h rfl (zq_o_28 _), ?_⟩
  replace h := zq_nx1 (q := 37) h rfl
  refine ⟨zq_k_s2 154 (fun z => .ifCond .ne z) 13 h rfl (zq_o_154 _) (by decide +kernel), ?_⟩
  replace h := zq_nx3 (q := 40) h rfl
  refine ⟨zq_k_n 42 h rfl (zq_o_42 _), ?_⟩
  replace h := zq_nx1 (q := 41) h rfl
  refine ⟨zq_k_u2 180 (fun z => .getfield z) 57 h rfl (zq_o_180 _) (by decide +kernel), ?_⟩
  replace h := zq_nx3 (q := 44) h rfl
  refine ⟨zq_k_u2 180 (fun z => .getfield z) 229 h rfl (zq_o_180 _) (by decide +kernel), ?_⟩
  replace h := zq_nx3 (q := 47) h rfl
  exact zq_k_s2 167 (fun z => .goto z) 10 h rfl (zq_o_167 _) (by decide +kernel)
set_option maxRecDepth 100000 in
theorem dd_Q_luck_50 : (decode prog_1_method_27_code 50 = .ok (.aload_n 0, 1)) ∧ (decode prog_1_method_27_code 51 = .ok (.getfield 57, 3)) ∧ (decode prog_1_method_27_code 54 = .ok (.getfield 233, 3)) ∧ (decode prog_1_method_27_code 57 = .ok (.lreturn, 1)) := by
  have h : List.drop 50 prog_1_method_27_code.data.toList = 0x2a :: _ := rfl
  refine ⟨zq_k_n 42 h rfl (zq_o_42 _), ?_⟩
  replace h := zq_nx1 (q := 51) h rfl
  refine ⟨zq_k_u2 180 (fun z => .getfield z) 57 h rfl (zq_o_180 _) (by decide +kernel), ?_⟩
  replace h := zq_nx3 (q := 54) h rfl
  refine ⟨zq_k_u2 180 (fun z => .getfield z) 233 h rfl (zq_o_180 _) (by decide +kernel), ?_⟩
  replace h := zq_nx3 (q := 57) h rfl
  exact zq_k_n 173 h rfl (zq_o_173 _)
def f_Q_luck_20   (h : mH) : Option (Int64 × mH) :=
  some (((-1) : Int64), h)
set_option maxRecDepth 20000 in
theorem t_Q_luck_20 {sc : Nat × (Nat → Int32)}   (h : mH) (r : Int64) (h' : mH) (hf : f_Q_luck_20   h = some (r, h')) : G sc y_Q_luck prog_1_method_27_code 3 (some .long) 4 92 20 [] [] h (some (.long r)) h' := by
  unfold f_Q_luck_20 at hf
  refine g_ldc2 (pc := 20) ((-1) : Int64) dd_Q_luck_0.2.2.2.2.2.2.2.2.2.2.1 wd_749 ?_
  obtain ⟨rfl, rfl⟩ := ret2 hf
  exact g_lret (pc := 23) rfl dd_Q_luck_0.2.2.2.2.2.2.2.2.2.2.2.1
def f_Q_luck_0  (a0 : Nat) (a1 : Int32) (a2 : Int32) (h : mH) : Option (Int64 × mH) :=
  bd1 (gR h a0 0 1) fun x1 =>
  bd1 (kC h x1 4) fun _ =>
  bd2 (f_Realm_hasLaw x1 a1 h) fun x7 h5 =>
  if x7 = 0 then
    f_Q_luck_20  h5
  else
    bd2 (f_Q_isWithin a2 (0 : Int32) (1 : Int32) h5) fun x10 h8 =>
    if x10 = 0 then
      f_Q_luck_20  h8
    else
      bd1 (gR h8 a0 0 8) fun x11 =>
      bd1 (gR h8 a0 0 1) fun x13 =>
      bd1 (kC h8 x11 1) fun _ =>
      bd1 (f_Odds_weigh x11 x13 a1 h8) fun h17 =>
      if a2 = 0 then
        bd1 (gR h17 a0 0 8) fun x23 =>
        bd1 (gL h17 x23 1 0) fun x25 =>
        some (x25, h17)
      else
        bd1 (gR h17 a0 0 8) fun x19 =>
        bd1 (gL h17 x19 1 1) fun x21 =>
        some (x21, h17)
set_option maxRecDepth 20000 in
theorem t_Q_luck_0 {sc : Nat × (Nat → Int32)}  (a0 : Nat) (a1 : Int32) (a2 : Int32) (h : mH) (r : Int64) (h' : mH) (hf : f_Q_luck_0  a0 a1 a2 h = some (r, h')) : G sc y_Q_luck prog_1_method_27_code 3 (some .long) 4 92 0 [(0, .ref a0), (1, .int a1), (2, .int a2)] [] h (some (.long r)) h' := by
  unfold f_Q_luck_0 at hf
  refine g_aload_n (pc := 0) 0 dd_Q_luck_0.1 rfl rfl ?_
  obtain ⟨x1, e2, hf⟩ := bd1_e hf
  refine g_get (pc := 1) (ci := 0) (kk := 1) dd_Q_luck_0.2.1 rfl in_Q (by decide) wd_297 (gR_spec e2) ?_
  refine g_iload_n (pc := 4) 1 dd_Q_luck_0.2.2.1 rfl rfl ?_
  obtain ⟨u4, e3, hf⟩ := bd1_e hf
  obtain ⟨x7, h5, e6, hf⟩ := bd2_e hf
  refine g_callV (pc := 5) (ci := 4) [.int a1] (site_of si_Realm_hasLaw (by decide) (by decide)) wd_519 wd_488 wd_489 dd_Q_luck_0.2.2.2.1 rfl e3 (Nat.le_of_ble_eq_true rfl) (fun z => absurd z si_na_Realm_hasLaw) (fun z => absurd z si_na_Realm_hasLaw) (fun z => absurd z si_na_Realm_hasLaw) (c_Realm_hasLaw e6) rfl ?_
  refine g_st [.int x7] rfl ?_
  refine g_ifeq (pc := 8) 20 dd_Q_luck_0.2.2.2.2.1 (by decide) (fun c29 => ?_) (fun c29 => ?_)
  · replace hf := (if_pos c29).symm.trans hf
    refine g_lv [] rfl ?_
    exact t_Q_luck_20  _ _ _  hf
  · replace hf := (if_neg c29).symm.trans hf
    refine g_iload_n (pc := 11) 2 dd_Q_luck_0.2.2.2.2.2.1 rfl rfl ?_
    refine g_iconst (pc := 12) (0 : Int32) dd_Q_luck_0.2.2.2.2.2.2.1 (by decide) ?_
    refine g_iconst (pc := 13) (1 : Int32) dd_Q_luck_0.2.2.2.2.2.2.2.1 (by decide) ?_
    obtain ⟨x10, h8, e9, hf⟩ := bd2_e hf
    refine g_callS (pc := 14) [.int a2, .int (0 : Int32), .int (1 : Int32)] (site_of si_Q_isWithin (by decide) (by decide)) wd_331 wd_332 dd_Q_luck_0.2.2.2.2.2.2.2.2.1 (Nat.le_of_ble_eq_true rfl) (fun z => absurd z si_na_Q_isWithin) (fun z => absurd z si_na_Q_isWithin) (fun z => absurd z si_na_Q_isWithin) (c_Q_isWithin e9) rfl ?_
    refine g_st [.int x10] rfl ?_
    refine g_ifne (pc := 17) 24 dd_Q_luck_0.2.2.2.2.2.2.2.2.2.1 (by decide) (fun c28 => ?_) (fun c28 => ?_)
    · replace hf := (if_neg c28).symm.trans hf
      refine g_aload_n (pc := 24) 0 dd_Q_luck_0.2.2.2.2.2.2.2.2.2.2.2.2.1 rfl rfl ?_
      obtain ⟨x11, e12, hf⟩ := bd1_e hf
      refine g_get (pc := 25) (ci := 0) (kk := 8) dd_Q_luck_0.2.2.2.2.2.2.2.2.2.2.2.2.2.1 rfl in_Q (by decide) wd_304 (gR_spec e12) ?_
      refine g_aload_n (pc := 28) 0 dd_Q_luck_0.2.2.2.2.2.2.2.2.2.2.2.2.2.2.1 rfl rfl ?_
      obtain ⟨x13, e14, hf⟩ := bd1_e hf
      refine g_get (pc := 29) (ci := 0) (kk := 1) dd_Q_luck_0.2.2.2.2.2.2.2.2.2.2.2.2.2.2.2.1 rfl in_Q (by decide) wd_297 (gR_spec e14) ?_
      refine g_iload_n (pc := 32) 1 dd_Q_luck_0.2.2.2.2.2.2.2.2.2.2.2.2.2.2.2.2.1 rfl rfl ?_
      obtain ⟨u16, e15, hf⟩ := bd1_e hf
      obtain ⟨h17, e18, hf⟩ := bd1_e hf
      refine g_callV (pc := 33) (ci := 1) [.ref x13, .int a1] (site_of si_Odds_weigh (by decide) (by decide)) wd_750 wd_751 wd_752 dd_Q_luck_0.2.2.2.2.2.2.2.2.2.2.2.2.2.2.2.2.2.1 rfl e15 (Nat.le_of_ble_eq_true rfl) (fun z => absurd z si_na_Odds_weigh) (fun z => absurd z si_na_Odds_weigh) (fun z => absurd z si_na_Odds_weigh) (c_Odds_weigh e18) rfl ?_
      refine g_st [] rfl ?_
      refine g_iload_n (pc := 36) 2 dd_Q_luck_0.2.2.2.2.2.2.2.2.2.2.2.2.2.2.2.2.2.2.1 rfl rfl ?_
      refine g_ifne (pc := 37) 50 dd_Q_luck_0.2.2.2.2.2.2.2.2.2.2.2.2.2.2.2.2.2.2.2.1 (by decide) (fun c27 => ?_) (fun c27 => ?_)
      · replace hf := (if_neg c27).symm.trans hf
        refine g_aload_n (pc := 50) 0 dd_Q_luck_50.1 rfl rfl ?_
        obtain ⟨x19, e20, hf⟩ := bd1_e hf
        refine g_get (pc := 51) (ci := 0) (kk := 8) dd_Q_luck_50.2.1 rfl in_Q (by decide) wd_304 (gR_spec e20) ?_
        obtain ⟨x21, e22, hf⟩ := bd1_e hf
        refine g_get (pc := 54) (ci := 1) (kk := 1) dd_Q_luck_50.2.2.1 rfl in_Odds (by decide) wd_271 (gL_spec e22) ?_
        obtain ⟨rfl, rfl⟩ := ret2 hf
        exact g_lret (pc := 57) rfl dd_Q_luck_50.2.2.2
      · replace hf := (if_pos c27).symm.trans hf
        refine g_aload_n (pc := 40) 0 dd_Q_luck_0.2.2.2.2.2.2.2.2.2.2.2.2.2.2.2.2.2.2.2.2.1 rfl rfl ?_
        obtain ⟨x23, e24, hf⟩ := bd1_e hf
        refine g_get (pc := 41) (ci := 0) (kk := 8) dd_Q_luck_0.2.2.2.2.2.2.2.2.2.2.2.2.2.2.2.2.2.2.2.2.2.1 rfl in_Q (by decide) wd_304 (gR_spec e24) ?_
        obtain ⟨x25, e26, hf⟩ := bd1_e hf
        refine g_get (pc := 44) (ci := 1) (kk := 0) dd_Q_luck_0.2.2.2.2.2.2.2.2.2.2.2.2.2.2.2.2.2.2.2.2.2.2.1 rfl in_Odds (by decide) wd_269 (gL_spec e26) ?_
        refine g_goto (pc := 47) 57 dd_Q_luck_0.2.2.2.2.2.2.2.2.2.2.2.2.2.2.2.2.2.2.2.2.2.2.2 (by decide) ?_
        obtain ⟨rfl, rfl⟩ := ret2 hf
        exact g_lret (pc := 57) rfl dd_Q_luck_50.2.2.2
    · replace hf := (if_pos c28).symm.trans hf
      refine g_lv [] rfl ?_
      exact t_Q_luck_20  _ _ _  hf
def f_Q_luck (a0 : Nat) (a1 : Int32) (a2 : Int32) (h : mH) : Option (Int64 × mH) := f_Q_luck_0 a0 a1 a2 h
theorem c_Q_luck {sc : Nat × (Nat → Int32)} {a0 : Nat} {a1 : Int32} {a2 : Int32} {h : mH} {r : Int64} {h' : mH} (hf : f_Q_luck a0 a1 a2 h = some (r, h')) : MM sc y_Q_luck prog_1_method_27_code 3 (some .long) 4 92 [.ref a0, .int a1, .int a2] h (some (.long r)) h' :=
  mm_of_G si_pn_Q (Nat.le_of_ble_eq_true rfl) (t_Q_luck_0 _ _ _ _ _ _ hf)
/-! Sightings append (III)Z -/
set_option maxRecDepth 100000 in
theorem dd_Sightings_append_0 : (decode prog_7_method_2_code 0 = .ok (.aload_n 0, 1)) ∧ (decode prog_7_method_2_code 1 = .ok (.getfield 21, 3)) ∧ (decode prog_7_method_2_code 4 = .ok (.bipush 8, 2)) ∧ (decode prog_7_method_2_code 6 = .ok (.if_icmp .lt 5, 3)) ∧ (decode prog_7_method_2_code 9 = .ok (.iconst 0, 1)) ∧ (decode prog_7_method_2_code 10 = .ok (.ireturn, 1)) ∧ (decode prog_7_method_2_code 11 = .ok (.aload_n 0, 1)) ∧ (decode prog_7_method_2_code 12 = .ok (.getfield 9, 3)) ∧ (decode prog_7_method_2_code 15 = .ok (.aload_n 0, 1)) ∧ (decode prog_7_method_2_code 16 = .ok (.getfield 21, 3)) ∧ (decode prog_7_method_2_code 19 = .ok (.iload_n 1, 1)) ∧ (decode prog_7_method_2_code 20 = .ok (.iastore, 1)) ∧ (decode prog_7_method_2_code 21 = .ok (.aload_n 0, 1)) ∧ (decode prog_7_method_2_code 22 = .ok (.getfield 15, 3)) ∧ (decode prog_7_method_2_code 25 = .ok (.aload_n 0, 1)) ∧ (decode prog_7_method_2_code 26 = .ok (.getfield 21, 3)) ∧ (decode prog_7_method_2_code 29 = .ok (.iload_n 2, 1)) ∧ (decode prog_7_method_2_code 30 = .ok (.iastore, 1)) ∧ (decode prog_7_method_2_code 31 = .ok (.aload_n 0, 1)) ∧ (decode prog_7_method_2_code 32 = .ok (.getfield 18, 3)) ∧ (decode prog_7_method_2_code 35 = .ok (.aload_n 0, 1)) ∧ (decode prog_7_method_2_code 36 = .ok (.getfield 21, 3)) ∧ (decode prog_7_method_2_code 39 = .ok (.iload_n 3, 1)) ∧ (decode prog_7_method_2_code 40 = .ok (.iastore, 1)) := by
  have h : List.drop 0 prog_7_method_2_code.data.toList = 0x2a :: _ := rfl
  refine ⟨zq_k_n 42 h rfl (zq_o_42 _), ?_⟩
  replace h := zq_nx1 (q := 1) h rfl
  refine ⟨zq_k_u2 180 (fun z => .getfield z) 21 h rfl (zq_o_180 _) (by decide +kernel), ?_⟩
  replace h := zq_nx3 (q := 4) h rfl
  refine ⟨zq_k_s1 16 (fun z => .bipush z) 8 h rfl (zq_o_16 _) (by decide +kernel), ?_⟩
  replace h := zq_nx2 (q := 6) h rfl
  refine ⟨zq_k_s2 161 (fun z => .if_icmp .lt z) 5 h rfl (zq_o_161 _) (by decide +kernel), ?_⟩
  replace h := zq_nx3 (q := 9) h rfl
  refine ⟨zq_k_n 3 h rfl (zq_o_3 _), ?_⟩
  replace h := zq_nx1 (q := 10) h rfl
  refine ⟨zq_k_n 172 h rfl (zq_o_172 _), ?_⟩
  replace h := zq_nx1 (q := 11) h rfl
  refine ⟨zq_k_n 42 h rfl (zq_o_42 _), ?_⟩
  replace h := zq_nx1 (q := 12) h rfl
  refine ⟨zq_k_u2 180 (fun z => .getfield z) 9 h rfl (zq_o_180 _) (by decide +kernel), ?_⟩
  replace h := zq_nx3 (q := 15) h rfl
  refine ⟨zq_k_n 42 h rfl (zq_o_42 _), ?_⟩
  replace h := zq_nx1 (q := 16) h rfl
  refine ⟨zq_k_u2 180 (fun z => .getfield z) 21 h rfl (zq_o_180 _) (by decide +kernel), ?_⟩
  replace h := zq_nx3 (q := 19) h rfl
  refine ⟨zq_k_n 27 h rfl (zq_o_27 _), ?_⟩
  replace h := zq_nx1 (q := 20) h rfl
  refine ⟨zq_k_n 79 h rfl (zq_o_79 _), ?_⟩
  replace h := zq_nx1 (q := 21) h rfl
  refine ⟨zq_k_n 42 h rfl (zq_o_42 _), ?_⟩
  replace h := zq_nx1 (q := 22) h rfl
  refine ⟨zq_k_u2 180 (fun z => .getfield z) 15 h rfl (zq_o_180 _) (by decide +kernel), ?_⟩
  replace h := zq_nx3 (q := 25) h rfl
  refine ⟨zq_k_n 42 h rfl (zq_o_42 _), ?_⟩
  replace h := zq_nx1 (q := 26) h rfl
  refine ⟨zq_k_u2 180 (fun z => .getfield z) 21 h rfl (zq_o_180 _) (by decide +kernel), ?_⟩
  replace h := zq_nx3 (q := 29) h rfl
  refine ⟨zq_k_n 28 h rfl (zq_o_28 _), ?_⟩
  replace h := zq_nx1 (q := 30) h rfl
  refine ⟨zq_k_n 79 h rfl (zq_o_79 _), ?_⟩
  replace h := zq_nx1 (q := 31) h rfl
  refine ⟨zq_k_n 42 h rfl (zq_o_42 _), ?_⟩
  replace h := zq_nx1 (q := 32) h rfl
  refine ⟨zq_k_u2 180 (fun z => .getfield z) 18 h rfl (zq_o_180 _) (by decide +kernel), ?_⟩
  replace h := zq_nx3 (q := 35) h rfl
  refine ⟨zq_k_n 42 h rfl (zq_o_42 _), ?_⟩
  replace h := zq_nx1 (q := 36) h rfl
  refine ⟨zq_k_u2 180 (fun z => .getfield z) 21 h rfl (zq_o_180 _) (by decide +kernel), ?_⟩
  replace h := zq_nx3 (q := 39) h rfl
  refine ⟨zq_k_n 29 h rfl (zq_o_29 _), ?_⟩
  replace h := zq_nx1 (q := 40) h rfl
  exact zq_k_n 79 h rfl (zq_o_79 _)
set_option maxRecDepth 100000 in
theorem dd_Sightings_append_41 : (decode prog_7_method_2_code 41 = .ok (.aload_n 0, 1)) ∧ (decode prog_7_method_2_code 42 = .ok (.dup, 1)) ∧ (decode prog_7_method_2_code 43 = .ok (.getfield 21, 3)) ∧ (decode prog_7_method_2_code 46 = .ok (.iconst 1, 1)) ∧ (decode prog_7_method_2_code 47 = .ok (.iadd, 1)) ∧ (decode prog_7_method_2_code 48 = .ok (.putfield 21, 3)) ∧ (decode prog_7_method_2_code 51 = .ok (.iconst 1, 1)) ∧ (decode prog_7_method_2_code 52 = .ok (.ireturn, 1)) := by
  have h : List.drop 41 prog_7_method_2_code.data.toList = 0x2a :: _ := rfl
  refine ⟨zq_k_n 42 h rfl (zq_o_42 _), ?_⟩
  replace h := zq_nx1 (q := 42) h rfl
  refine ⟨zq_k_n 89 h rfl (zq_o_89 _), ?_⟩
  replace h := zq_nx1 (q := 43) h rfl
  refine ⟨zq_k_u2 180 (fun z => .getfield z) 21 h rfl (zq_o_180 _) (by decide +kernel), ?_⟩
  replace h := zq_nx3 (q := 46) h rfl
  refine ⟨zq_k_n 4 h rfl (zq_o_4 _), ?_⟩
  replace h := zq_nx1 (q := 47) h rfl
  refine ⟨zq_k_n 96 h rfl (zq_o_96 _), ?_⟩
  replace h := zq_nx1 (q := 48) h rfl
  refine ⟨zq_k_u2 181 (fun z => .putfield z) 21 h rfl (zq_o_181 _) (by decide +kernel), ?_⟩
  replace h := zq_nx3 (q := 51) h rfl
  refine ⟨zq_k_n 4 h rfl (zq_o_4 _), ?_⟩
  replace h := zq_nx1 (q := 52) h rfl
  exact zq_k_n 172 h rfl (zq_o_172 _)
def f_Sightings_append_0  (a0 : Nat) (a1 : Int32) (a2 : Int32) (a3 : Int32) (h : mH) : Option (Int32 × mH) :=
  bd1 (gI h a0 6 0) fun x1 =>
  if x1 < (8 : Int32) then
    bd1 (gR h a0 6 1) fun x3 =>
    bd1 (gI h a0 6 0) fun x5 =>
    bd1 (sI h 0 x3 x5 a1) fun h7 =>
    bd1 (gR h7 a0 6 2) fun x9 =>
    bd1 (gI h7 a0 6 0) fun x11 =>
    bd1 (sI h7 0 x9 x11 a2) fun h13 =>
    bd1 (gR h13 a0 6 3) fun x15 =>
    bd1 (gI h13 a0 6 0) fun x17 =>
    bd1 (sI h13 0 x15 x17 a3) fun h19 =>
    bd1 (gI h19 a0 6 0) fun x21 =>
    bd1 (pV h19 a0 6 0 (.int (x21 + (1 : Int32)))) fun h23 =>
    some ((1 : Int32), h23)
  else
    some ((0 : Int32), h)
set_option maxRecDepth 20000 in
theorem t_Sightings_append_0 {sc : Nat × (Nat → Int32)}  (a0 : Nat) (a1 : Int32) (a2 : Int32) (a3 : Int32) (h : mH) (r : Int32) (h' : mH) (hf : f_Sightings_append_0  a0 a1 a2 a3 h = some (r, h')) : G sc y_Sightings_append prog_7_method_2_code 4 (some .boolean) 0 0 0 [(0, .ref a0), (1, .int a1), (2, .int a2), (3, .int a3)] [] h (some (.int r)) h' := by
  unfold f_Sightings_append_0 at hf
  refine g_aload_n (pc := 0) 0 dd_Sightings_append_0.1 rfl rfl ?_
  obtain ⟨x1, e2, hf⟩ := bd1_e hf
  refine g_get (pc := 1) (ci := 6) (kk := 0) dd_Sightings_append_0.2.1 rfl in_Sightings (by decide) wd_77 (gI_spec e2) ?_
  refine g_bipush (pc := 4) (8 : Int32) dd_Sightings_append_0.2.2.1 (by decide) ?_
  refine g_icmplt (pc := 6) 11 dd_Sightings_append_0.2.2.2.1 (by decide) (fun c25 => ?_) (fun c25 => ?_)
  · replace hf := (if_pos c25).symm.trans hf
    refine g_aload_n (pc := 11) 0 dd_Sightings_append_0.2.2.2.2.2.2.1 rfl rfl ?_
    obtain ⟨x3, e4, hf⟩ := bd1_e hf
    refine g_get (pc := 12) (ci := 6) (kk := 1) dd_Sightings_append_0.2.2.2.2.2.2.2.1 rfl in_Sightings (by decide) wd_80 (gR_spec e4) ?_
    refine g_aload_n (pc := 15) 0 dd_Sightings_append_0.2.2.2.2.2.2.2.2.1 rfl rfl ?_
    obtain ⟨x5, e6, hf⟩ := bd1_e hf
    refine g_get (pc := 16) (ci := 6) (kk := 0) dd_Sightings_append_0.2.2.2.2.2.2.2.2.2.1 rfl in_Sightings (by decide) wd_77 (gI_spec e6) ?_
    refine g_iload_n (pc := 19) 1 dd_Sightings_append_0.2.2.2.2.2.2.2.2.2.2.1 rfl rfl ?_
    obtain ⟨h7, e8, hf⟩ := bd1_e hf
    refine g_iast (pc := 20) dd_Sightings_append_0.2.2.2.2.2.2.2.2.2.2.2.1 e8 ?_
    refine g_aload_n (pc := 21) 0 dd_Sightings_append_0.2.2.2.2.2.2.2.2.2.2.2.2.1 rfl rfl ?_
    obtain ⟨x9, e10, hf⟩ := bd1_e hf
    refine g_get (pc := 22) (ci := 6) (kk := 2) dd_Sightings_append_0.2.2.2.2.2.2.2.2.2.2.2.2.2.1 rfl in_Sightings (by decide) wd_81 (gR_spec e10) ?_
    refine g_aload_n (pc := 25) 0 dd_Sightings_append_0.2.2.2.2.2.2.2.2.2.2.2.2.2.2.1 rfl rfl ?_
    obtain ⟨x11, e12, hf⟩ := bd1_e hf
    refine g_get (pc := 26) (ci := 6) (kk := 0) dd_Sightings_append_0.2.2.2.2.2.2.2.2.2.2.2.2.2.2.2.1 rfl in_Sightings (by decide) wd_77 (gI_spec e12) ?_
    refine g_iload_n (pc := 29) 2 dd_Sightings_append_0.2.2.2.2.2.2.2.2.2.2.2.2.2.2.2.2.1 rfl rfl ?_
    obtain ⟨h13, e14, hf⟩ := bd1_e hf
    refine g_iast (pc := 30) dd_Sightings_append_0.2.2.2.2.2.2.2.2.2.2.2.2.2.2.2.2.2.1 e14 ?_
    refine g_aload_n (pc := 31) 0 dd_Sightings_append_0.2.2.2.2.2.2.2.2.2.2.2.2.2.2.2.2.2.2.1 rfl rfl ?_
    obtain ⟨x15, e16, hf⟩ := bd1_e hf
    refine g_get (pc := 32) (ci := 6) (kk := 3) dd_Sightings_append_0.2.2.2.2.2.2.2.2.2.2.2.2.2.2.2.2.2.2.2.1 rfl in_Sightings (by decide) wd_82 (gR_spec e16) ?_
    refine g_aload_n (pc := 35) 0 dd_Sightings_append_0.2.2.2.2.2.2.2.2.2.2.2.2.2.2.2.2.2.2.2.2.1 rfl rfl ?_
    obtain ⟨x17, e18, hf⟩ := bd1_e hf
    refine g_get (pc := 36) (ci := 6) (kk := 0) dd_Sightings_append_0.2.2.2.2.2.2.2.2.2.2.2.2.2.2.2.2.2.2.2.2.2.1 rfl in_Sightings (by decide) wd_77 (gI_spec e18) ?_
    refine g_iload_n (pc := 39) 3 dd_Sightings_append_0.2.2.2.2.2.2.2.2.2.2.2.2.2.2.2.2.2.2.2.2.2.2.1 rfl rfl ?_
    obtain ⟨h19, e20, hf⟩ := bd1_e hf
    refine g_iast (pc := 40) dd_Sightings_append_0.2.2.2.2.2.2.2.2.2.2.2.2.2.2.2.2.2.2.2.2.2.2.2 e20 ?_
    refine g_aload_n (pc := 41) 0 dd_Sightings_append_41.1 rfl rfl ?_
    refine g_dup (pc := 42) dd_Sightings_append_41.2.1 rfl ?_
    obtain ⟨x21, e22, hf⟩ := bd1_e hf
    refine g_get (pc := 43) (ci := 6) (kk := 0) dd_Sightings_append_41.2.2.1 rfl in_Sightings (by decide) wd_77 (gI_spec e22) ?_
    refine g_iconst (pc := 46) (1 : Int32) dd_Sightings_append_41.2.2.2.1 (by decide) ?_
    refine g_iadd (pc := 47) dd_Sightings_append_41.2.2.2.2.1 ?_
    obtain ⟨h23, e24, hf⟩ := bd1_e hf
    refine g_put (pc := 48) (ci := 6) (kk := 0) ty_Sightings tyok_Sightings nm_Sightings dd_Sightings_append_41.2.2.2.2.2.1 rfl in_Sightings (by decide) wd_77 rfl (fun _ => rfl) (fun _ => rfl) (fun _ z => by cases z) e24 ?_
    refine g_iconst (pc := 51) (1 : Int32) dd_Sightings_append_41.2.2.2.2.2.2.1 (by decide) ?_
    obtain ⟨rfl, rfl⟩ := ret2 hf
    exact g_zret (pc := 52) rfl rfl dd_Sightings_append_41.2.2.2.2.2.2.2
  · replace hf := (if_neg c25).symm.trans hf
    refine g_iconst (pc := 9) (0 : Int32) dd_Sightings_append_0.2.2.2.2.1 (by decide) ?_
    obtain ⟨rfl, rfl⟩ := ret2 hf
    exact g_zret (pc := 10) rfl rfl dd_Sightings_append_0.2.2.2.2.2.1
def f_Sightings_append (a0 : Nat) (a1 : Int32) (a2 : Int32) (a3 : Int32) (h : mH) : Option (Int32 × mH) := f_Sightings_append_0 a0 a1 a2 a3 h
theorem c_Sightings_append {sc : Nat × (Nat → Int32)} {a0 : Nat} {a1 : Int32} {a2 : Int32} {a3 : Int32} {h : mH} {r : Int32} {h' : mH} (hf : f_Sightings_append a0 a1 a2 a3 h = some (r, h')) : MM sc y_Sightings_append prog_7_method_2_code 4 (some .boolean) 0 0 [.ref a0, .int a1, .int a2, .int a3] h (some (.int r)) h' :=
  mm_of_G si_pn_Sightings (Nat.le_of_ble_eq_true rfl) (t_Sightings_append_0 _ _ _ _ _ _ _ hf)
/-! Q see (III)I -/
set_option maxRecDepth 100000 in
theorem dd_Q_see_0 : (decode prog_1_method_28_code 0 = .ok (.iload_n 1, 1)) ∧ (decode prog_1_method_28_code 1 = .ok (.ifCond .ne 14, 3)) ∧ (decode prog_1_method_28_code 4 = .ok (.aload_n 0, 1)) ∧ (decode prog_1_method_28_code 5 = .ok (.getfield 19, 3)) ∧ (decode prog_1_method_28_code 8 = .ok (.iload_n 2, 1)) ∧ (decode prog_1_method_28_code 9 = .ok (.invokevirtual 135, 3)) ∧ (decode prog_1_method_28_code 12 = .ok (.ifCond .ne 19, 3)) ∧ (decode prog_1_method_28_code 15 = .ok (.iload_n 1, 1)) ∧ (decode prog_1_method_28_code 16 = .ok (.iconst 1, 1)) ∧ (decode prog_1_method_28_code 17 = .ok (.if_icmp .ne 18, 3)) ∧ (decode prog_1_method_28_code 20 = .ok (.aload_n 0, 1)) ∧ (decode prog_1_method_28_code 21 = .ok (.getfield 19, 3)) ∧ (decode prog_1_method_28_code 24 = .ok (.iload_n 2, 1)) ∧ (decode prog_1_method_28_code 25 = .ok (.invokevirtual 109, 3)) ∧ (decode prog_1_method_28_code 28 = .ok (.ifCond .eq 7, 3)) ∧ (decode prog_1_method_28_code 31 = .ok (.iconst 1, 1)) ∧ (decode prog_1_method_28_code 32 = .ok (.goto 4, 3)) ∧ (decode prog_1_method_28_code 35 = .ok (.iconst 0, 1)) ∧ (decode prog_1_method_28_code 36 = .ok (.istore 4, 2)) ∧ (decode prog_1_method_28_code 38 = .ok (.iload 4, 2)) ∧ (decode prog_1_method_28_code 40 = .ok (.ifCond .eq 13, 3)) ∧ (decode prog_1_method_28_code 43 = .ok (.iload_n 3, 1)) ∧ (decode prog_1_method_28_code 44 = .ok (.iconst 0, 1)) ∧ (decode prog_1_method_28_code 45 = .ok (.bipush 20, 2)) := by
  have h : List.drop 0 prog_1_method_28_code.data.toList = 0x1b :: _ := rfl
  refine ⟨zq_k_n 27 h rfl (zq_o_27 _), ?_⟩
  replace h := zq_nx1 (q := 1) h rfl
  refine ⟨zq_k_s2 154 (fun z => .ifCond .ne z) 14 h rfl (zq_o_154 _) (by decide +kernel), ?_⟩
  replace h := zq_nx3 (q := 4) h rfl
  refine ⟨zq_k_n 42 h rfl (zq_o_42 _), ?_⟩
  replace h := zq_nx1 (q := 5) h rfl
  refine ⟨zq_k_u2 180 (fun z => .getfield z) 19 h rfl (zq_o_180 _) (by decide +kernel), ?_⟩
  replace h := zq_nx3 (q := 8) h rfl
  refine ⟨zq_k_n 28 h rfl (zq_o_28 _), ?_⟩
  replace h := zq_nx1 (q := 9) h rfl
  refine ⟨zq_k_u2 182 (fun z => .invokevirtual z) 135 h rfl (zq_o_182 _) (by decide +kernel), ?_⟩
  replace h := zq_nx3 (q := 12) h rfl
  refine ⟨zq_k_s2 154 (fun z => .ifCond .ne z) 19 h rfl (zq_o_154 _) (by decide +kernel), ?_⟩
  replace h := zq_nx3 (q := 15) h rfl
  refine ⟨zq_k_n 27 h rfl (zq_o_27 _), ?_⟩
  replace h := zq_nx1 (q := 16) h rfl
  refine ⟨zq_k_n 4 h rfl (zq_o_4 _), ?_⟩
  replace h := zq_nx1 (q := 17) h rfl
  refine ⟨zq_k_s2 160 (fun z => .if_icmp .ne z) 18 h rfl (zq_o_160 _) (by decide +kernel), ?_⟩
  replace h := zq_nx3 (q := 20) h rfl
  refine ⟨zq_k_n 42 h rfl (zq_o_42 _), ?_⟩
  replace h := zq_nx1 (q := 21) h rfl
  refine ⟨zq_k_u2 180 (fun z => .getfield z) 19 h rfl (zq_o_180 _) (by decide +kernel), ?_⟩
  replace h := zq_nx3 (q := 24) h rfl
  refine ⟨zq_k_n 28 h rfl (zq_o_28 _), ?_⟩
  replace h := zq_nx1 (q := 25) h rfl
  refine ⟨zq_k_u2 182 (fun z => .invokevirtual z) 109 h rfl (zq_o_182 _) (by decide +kernel), ?_⟩
  replace h := zq_nx3 (q := 28) h rfl
  refine ⟨zq_k_s2 153 (fun z => .ifCond .eq z) 7 h rfl (zq_o_153 _) (by decide +kernel), ?_⟩
  replace h := zq_nx3 (q := 31) h rfl
  refine ⟨zq_k_n 4 h rfl (zq_o_4 _), ?_⟩
  replace h := zq_nx1 (q := 32) h rfl
  refine ⟨zq_k_s2 167 (fun z => .goto z) 4 h rfl (zq_o_167 _) (by decide +kernel), ?_⟩
  replace h := zq_nx3 (q := 35) h rfl
  refine ⟨zq_k_n 3 h rfl (zq_o_3 _), ?_⟩
  replace h := zq_nx1 (q := 36) h rfl
  refine ⟨zq_k_u1 54 (fun z => .istore z) 4 h rfl (zq_o_54 _) (by decide +kernel), ?_⟩
  replace h := zq_nx2 (q := 38) h rfl
  refine ⟨zq_k_u1 21 (fun z => .iload z) 4 h rfl (zq_o_21 _) (by decide +kernel), ?_⟩
  replace h := zq_nx2 (q := 40) h rfl
  refine ⟨zq_k_s2 153 (fun z => .ifCond .eq z) 13 h rfl (zq_o_153 _) (by decide +kernel), ?_⟩
  replace h := zq_nx3 (q := 43) h rfl
  refine ⟨zq_k_n 29 h rfl (zq_o_29 _), ?_⟩
  replace h := zq_nx1 (q := 44) h rfl
  refine ⟨zq_k_n 3 h rfl (zq_o_3 _), ?_⟩
  replace h := zq_nx1 (q := 45) h rfl
  exact zq_k_s1 16 (fun z => .bipush z) 20 h rfl (zq_o_16 _) (by decide +kernel)
set_option maxRecDepth 100000 in
theorem dd_Q_see_47 : (decode prog_1_method_28_code 47 = .ok (.invokestatic 62, 3)) ∧ (decode prog_1_method_28_code 50 = .ok (.ifCond .ne 5, 3)) ∧ (decode prog_1_method_28_code 53 = .ok (.iconst (-1), 1)) ∧ (decode prog_1_method_28_code 54 = .ok (.ireturn, 1)) ∧ (decode prog_1_method_28_code 55 = .ok (.aload_n 0, 1)) ∧ (decode prog_1_method_28_code 56 = .ok (.getfield 19, 3)) ∧ (decode prog_1_method_28_code 59 = .ok (.getfield 236, 3)) ∧ (decode prog_1_method_28_code 62 = .ok (.iload_n 1, 1)) ∧ (decode prog_1_method_28_code 63 = .ok (.iload_n 2, 1)) ∧ (decode prog_1_method_28_code 64 = .ok (.iload_n 3, 1)) ∧ (decode prog_1_method_28_code 65 = .ok (.invokevirtual 240, 3)) ∧ (decode prog_1_method_28_code 68 = .ok (.ifCond .eq 16, 3)) ∧ (decode prog_1_method_28_code 71 = .ok (.aload_n 0, 1)) ∧ (decode prog_1_method_28_code 72 = .ok (.getfield 19, 3)) ∧ (decode prog_1_method_28_code 75 = .ok (.getfield 236, 3)) ∧ (decode prog_1_method_28_code 78 = .ok (.getfield 244, 3)) ∧ (decode prog_1_method_28_code 81 = .ok (.goto 5, 3)) ∧ (decode prog_1_method_28_code 84 = .ok (.bipush (-3), 2)) ∧ (decode prog_1_method_28_code 86 = .ok (.ireturn, 1)) := by
  have h : List.drop 47 prog_1_method_28_code.data.toList = 0xb8 :: _ := rfl
  refine ⟨zq_k_u2 184 (fun z => .invokestatic z) 62 h rfl (zq_o_184 _) (by decide +kernel), ?_⟩
  replace h := zq_nx3 (q := 50) h rfl
  refine ⟨zq_k_s2 154 (fun z => .ifCond .ne z) 5 h rfl (zq_o_154 _) (by decide +kernel), ?_⟩
  replace h := zq_nx3 (q := 53) h rfl
  refine ⟨zq_k_n 2 h rfl (zq_o_2 _), ?_⟩
  replace h := zq_nx1 (q := 54) h rfl
  refine ⟨zq_k_n 172 h rfl (zq_o_172 _), ?_⟩
  replace h := zq_nx1 (q := 55) h rfl
  refine ⟨zq_k_n 42 h rfl (zq_o_42 _), ?_⟩
  replace h := zq_nx1 (q := 56) h rfl
  refine ⟨zq_k_u2 180 (fun z => .getfield z) 19 h rfl (zq_o_180 _) (by decide +kernel), ?_⟩
  replace h := zq_nx3 (q := 59) h rfl
  refine ⟨zq_k_u2 180 (fun z => .getfield z) 236 h rfl (zq_o_180 _) (by decide +kernel), ?_⟩
  replace h := zq_nx3 (q := 62) h rfl
  refine ⟨zq_k_n 27 h rfl (zq_o_27 _), ?_⟩
  replace h := zq_nx1 (q := 63) h rfl
  refine ⟨zq_k_n 28 h rfl (zq_o_28 _), ?_⟩
  replace h := zq_nx1 (q := 64) h rfl
  refine ⟨zq_k_n 29 h rfl (zq_o_29 _), ?_⟩
  replace h := zq_nx1 (q := 65) h rfl
  refine ⟨zq_k_u2 182 (fun z => .invokevirtual z) 240 h rfl (zq_o_182 _) (by decide +kernel), ?_⟩
  replace h := zq_nx3 (q := 68) h rfl
  refine ⟨zq_k_s2 153 (fun z => .ifCond .eq z) 16 h rfl (zq_o_153 _) (by decide +kernel), ?_⟩
  replace h := zq_nx3 (q := 71) h rfl
  refine ⟨zq_k_n 42 h rfl (zq_o_42 _), ?_⟩
  replace h := zq_nx1 (q := 72) h rfl
  refine ⟨zq_k_u2 180 (fun z => .getfield z) 19 h rfl (zq_o_180 _) (by decide +kernel), ?_⟩
  replace h := zq_nx3 (q := 75) h rfl
  refine ⟨zq_k_u2 180 (fun z => .getfield z) 236 h rfl (zq_o_180 _) (by decide +kernel), ?_⟩
  replace h := zq_nx3 (q := 78) h rfl
  refine ⟨zq_k_u2 180 (fun z => .getfield z) 244 h rfl (zq_o_180 _) (by decide +kernel), ?_⟩
  replace h := zq_nx3 (q := 81) h rfl
  refine ⟨zq_k_s2 167 (fun z => .goto z) 5 h rfl (zq_o_167 _) (by decide +kernel), ?_⟩
  replace h := zq_nx3 (q := 84) h rfl
  refine ⟨zq_k_s1 16 (fun z => .bipush z) (-3) h rfl (zq_o_16 _) (by decide +kernel), ?_⟩
  replace h := zq_nx2 (q := 86) h rfl
  exact zq_k_n 172 h rfl (zq_o_172 _)
def f_Q_see_53   (h : mH) : Option (Int32 × mH) :=
  some (((-1) : Int32), h)
set_option maxRecDepth 20000 in
theorem t_Q_see_53 {sc : Nat × (Nat → Int32)}   (h : mH) (r : Int32) (h' : mH) (hf : f_Q_see_53   h = some (r, h')) : G sc y_Q_see prog_1_method_28_code 5 (some .int) 1 23 53 [] [] h (some (.int r)) h' := by
  unfold f_Q_see_53 at hf
  refine g_iconst (pc := 53) ((-1) : Int32) dd_Q_see_47.2.2.1 (by decide) ?_
  obtain ⟨rfl, rfl⟩ := ret2 hf
  exact g_iret (pc := 54) rfl dd_Q_see_47.2.2.2.1
def f_Q_see_36  (b0 : Nat) (b1 : Int32) (b2 : Int32) (b3 : Int32) (s0 : Int32) (h : mH) : Option (Int32 × mH) :=
  if s0 = 0 then
    f_Q_see_53  h
  else
    bd2 (f_Q_isWithin b3 (0 : Int32) (20 : Int32) h) fun x21 h19 =>
    if x21 = 0 then
      f_Q_see_53  h19
    else
      bd1 (gR h19 b0 0 1) fun x22 =>
      bd1 (gR h19 x22 4 18) fun x24 =>
      bd1 (kC h19 x24 6) fun _ =>
      bd2 (f_Sightings_append x24 b1 b2 b3 h19) fun x30 h28 =>
      if x30 = 0 then
        some (((-3) : Int32), h28)
      else
        bd1 (gR h28 b0 0 1) fun x31 =>
        bd1 (gR h28 x31 4 18) fun x33 =>
        bd1 (gI h28 x33 6 0) fun x35 =>
        some (x35, h28)
set_option maxRecDepth 20000 in
theorem t_Q_see_36 {sc : Nat × (Nat → Int32)}  (b0 : Nat) (b1 : Int32) (b2 : Int32) (b3 : Int32) (s0 : Int32) (h : mH) (r : Int32) (h' : mH) (hf : f_Q_see_36  b0 b1 b2 b3 s0 h = some (r, h')) : G sc y_Q_see prog_1_method_28_code 5 (some .int) 1 23 36 [(0, .ref b0), (1, .int b1), (2, .int b2), (3, .int b3)] [.int s0] h (some (.int r)) h' := by
  unfold f_Q_see_36 at hf
  refine g_istore (pc := 36) [(4, .int s0), (0, .ref b0), (1, .int b1), (2, .int b2), (3, .int b3)] dd_Q_see_0.2.2.2.2.2.2.2.2.2.2.2.2.2.2.2.2.2.2.1 (Nat.le_of_ble_eq_true rfl) rfl ?_
  refine g_iload (pc := 38) 0 dd_Q_see_0.2.2.2.2.2.2.2.2.2.2.2.2.2.2.2.2.2.2.2.1 rfl ?_
  refine g_ifeq (pc := 40) 53 dd_Q_see_0.2.2.2.2.2.2.2.2.2.2.2.2.2.2.2.2.2.2.2.2.1 (by decide) (fun c39 => ?_) (fun c39 => ?_)
  · replace hf := (if_pos c39).symm.trans hf
    refine g_lv [] rfl ?_
    exact t_Q_see_53  _ _ _  hf
  · replace hf := (if_neg c39).symm.trans hf
    refine g_iload_n (pc := 43) 4 dd_Q_see_0.2.2.2.2.2.2.2.2.2.2.2.2.2.2.2.2.2.2.2.2.2.1 rfl rfl ?_
    refine g_iconst (pc := 44) (0 : Int32) dd_Q_see_0.2.2.2.2.2.2.2.2.2.2.2.2.2.2.2.2.2.2.2.2.2.2.1 (by decide) ?_
    refine g_bipush (pc := 45) (20 : Int32) dd_Q_see_0.2.2.2.2.2.2.2.2.2.2.2.2.2.2.2.2.2.2.2.2.2.2.2 (by decide) ?_
    obtain ⟨x21, h19, e20, hf⟩ := bd2_e hf
    refine g_callS (pc := 47) [.int b3, .int (0 : Int32), .int (20 : Int32)] (site_of si_Q_isWithin (by decide) (by decide)) wd_331 wd_332 dd_Q_see_47.1 (Nat.le_of_ble_eq_true rfl) (fun z => absurd z si_na_Q_isWithin) (fun z => absurd z si_na_Q_isWithin) (fun z => absurd z si_na_Q_isWithin) (c_Q_isWithin e20) rfl ?_
    refine g_st [.int x21] rfl ?_
    refine g_ifne (pc := 50) 55 dd_Q_see_47.2.1 (by decide) (fun c38 => ?_) (fun c38 => ?_)
    · replace hf := (if_neg c38).symm.trans hf
      refine g_aload_n (pc := 55) 1 dd_Q_see_47.2.2.2.2.1 rfl rfl ?_
      obtain ⟨x22, e23, hf⟩ := bd1_e hf
      refine g_get (pc := 56) (ci := 0) (kk := 1) dd_Q_see_47.2.2.2.2.2.1 rfl in_Q (by decide) wd_297 (gR_spec e23) ?_
      obtain ⟨x24, e25, hf⟩ := bd1_e hf
      refine g_get (pc := 59) (ci := 4) (kk := 18) dd_Q_see_47.2.2.2.2.2.2.1 rfl in_Realm (by decide) wd_155 (gR_spec e25) ?_
      refine g_iload_n (pc := 62) 2 dd_Q_see_47.2.2.2.2.2.2.2.1 rfl rfl ?_
      refine g_iload_n (pc := 63) 3 dd_Q_see_47.2.2.2.2.2.2.2.2.1 rfl rfl ?_
      refine g_iload_n (pc := 64) 4 dd_Q_see_47.2.2.2.2.2.2.2.2.2.1 rfl rfl ?_
      obtain ⟨u27, e26, hf⟩ := bd1_e hf
      obtain ⟨x30, h28, e29, hf⟩ := bd2_e hf
      refine g_callV (pc := 65) (ci := 6) [.int b1, .int b2, .int b3] (site_of si_Sightings_append (by decide) (by decide)) wd_772 wd_773 wd_774 dd_Q_see_47.2.2.2.2.2.2.2.2.2.2.1 rfl e26 (Nat.le_of_ble_eq_true rfl) (fun z => absurd z si_na_Sightings_append) (fun z => absurd z si_na_Sightings_append) (fun z => absurd z si_na_Sightings_append) (c_Sightings_append e29) rfl ?_
      refine g_st [.int x30] rfl ?_
      refine g_ifeq (pc := 68) 84 dd_Q_see_47.2.2.2.2.2.2.2.2.2.2.2.1 (by decide) (fun c37 => ?_) (fun c37 => ?_)
      · replace hf := (if_pos c37).symm.trans hf
        refine g_bipush (pc := 84) ((-3) : Int32) dd_Q_see_47.2.2.2.2.2.2.2.2.2.2.2.2.2.2.2.2.2.1 (by decide) ?_
        obtain ⟨rfl, rfl⟩ := ret2 hf
        exact g_iret (pc := 86) rfl dd_Q_see_47.2.2.2.2.2.2.2.2.2.2.2.2.2.2.2.2.2.2
      · replace hf := (if_neg c37).symm.trans hf
        refine g_aload_n (pc := 71) 1 dd_Q_see_47.2.2.2.2.2.2.2.2.2.2.2.2.1 rfl rfl ?_
        obtain ⟨x31, e32, hf⟩ := bd1_e hf
        refine g_get (pc := 72) (ci := 0) (kk := 1) dd_Q_see_47.2.2.2.2.2.2.2.2.2.2.2.2.2.1 rfl in_Q (by decide) wd_297 (gR_spec e32) ?_
        obtain ⟨x33, e34, hf⟩ := bd1_e hf
        refine g_get (pc := 75) (ci := 4) (kk := 18) dd_Q_see_47.2.2.2.2.2.2.2.2.2.2.2.2.2.2.1 rfl in_Realm (by decide) wd_155 (gR_spec e34) ?_
        obtain ⟨x35, e36, hf⟩ := bd1_e hf
        refine g_get (pc := 78) (ci := 6) (kk := 0) dd_Q_see_47.2.2.2.2.2.2.2.2.2.2.2.2.2.2.2.1 rfl in_Sightings (by decide) wd_79 (gI_spec e36) ?_
        refine g_goto (pc := 81) 86 dd_Q_see_47.2.2.2.2.2.2.2.2.2.2.2.2.2.2.2.2.1 (by decide) ?_
        obtain ⟨rfl, rfl⟩ := ret2 hf
        exact g_iret (pc := 86) rfl dd_Q_see_47.2.2.2.2.2.2.2.2.2.2.2.2.2.2.2.2.2.2
    · replace hf := (if_pos c38).symm.trans hf
      refine g_lv [] rfl ?_
      exact t_Q_see_53  _ _ _  hf
def f_Q_see_35  (b0 : Nat) (b1 : Int32) (b2 : Int32) (b3 : Int32) (h : mH) : Option (Int32 × mH) :=
  f_Q_see_36  b0 b1 b2 b3 (0 : Int32) h
set_option maxRecDepth 20000 in
theorem t_Q_see_35 {sc : Nat × (Nat → Int32)}  (b0 : Nat) (b1 : Int32) (b2 : Int32) (b3 : Int32) (h : mH) (r : Int32) (h' : mH) (hf : f_Q_see_35  b0 b1 b2 b3 h = some (r, h')) : G sc y_Q_see prog_1_method_28_code 5 (some .int) 1 23 35 [(0, .ref b0), (1, .int b1), (2, .int b2), (3, .int b3)] [] h (some (.int r)) h' := by
  unfold f_Q_see_35 at hf
  refine g_iconst (pc := 35) (0 : Int32) dd_Q_see_0.2.2.2.2.2.2.2.2.2.2.2.2.2.2.2.2.2.1 (by decide) ?_
  refine g_lv [0, 1, 2, 3] rfl ?_
  exact t_Q_see_36  _ _ _ _ _ _ _ _  hf
def f_Q_see_31  (b0 : Nat) (b1 : Int32) (b2 : Int32) (b3 : Int32) (h : mH) : Option (Int32 × mH) :=
  f_Q_see_36  b0 b1 b2 b3 (1 : Int32) h
set_option maxRecDepth 20000 in
theorem t_Q_see_31 {sc : Nat × (Nat → Int32)}  (b0 : Nat) (b1 : Int32) (b2 : Int32) (b3 : Int32) (h : mH) (r : Int32) (h' : mH) (hf : f_Q_see_31  b0 b1 b2 b3 h = some (r, h')) : G sc y_Q_see prog_1_method_28_code 5 (some .int) 1 23 31 [(0, .ref b0), (1, .int b1), (2, .int b2), (3, .int b3)] [] h (some (.int r)) h' := by
  unfold f_Q_see_31 at hf
  refine g_iconst (pc := 31) (1 : Int32) dd_Q_see_0.2.2.2.2.2.2.2.2.2.2.2.2.2.2.2.1 (by decide) ?_
  refine g_goto (pc := 32) 36 dd_Q_see_0.2.2.2.2.2.2.2.2.2.2.2.2.2.2.2.2.1 (by decide) ?_
  refine g_lv [0, 1, 2, 3] rfl ?_
  exact t_Q_see_36  _ _ _ _ _ _ _ _  hf
def f_Q_see_15  (b0 : Nat) (b1 : Int32) (b2 : Int32) (b3 : Int32) (h : mH) : Option (Int32 × mH) :=
  if b1 = (1 : Int32) then
    bd1 (gR h b0 0 1) fun x10 =>
    bd1 (kC h x10 4) fun _ =>
    bd2 (f_Realm_hasLaw x10 b2 h) fun x16 h14 =>
    if x16 = 0 then
      f_Q_see_35  b0 b1 b2 b3 h14
    else
      f_Q_see_31  b0 b1 b2 b3 h14
  else
    f_Q_see_35  b0 b1 b2 b3 h
set_option maxRecDepth 20000 in
theorem t_Q_see_15 {sc : Nat × (Nat → Int32)}  (b0 : Nat) (b1 : Int32) (b2 : Int32) (b3 : Int32) (h : mH) (r : Int32) (h' : mH) (hf : f_Q_see_15  b0 b1 b2 b3 h = some (r, h')) : G sc y_Q_see prog_1_method_28_code 5 (some .int) 1 23 15 [(0, .ref b0), (1, .int b1), (2, .int b2), (3, .int b3)] [] h (some (.int r)) h' := by
  unfold f_Q_see_15 at hf
  refine g_iload_n (pc := 15) 1 dd_Q_see_0.2.2.2.2.2.2.2.1 rfl rfl ?_
  refine g_iconst (pc := 16) (1 : Int32) dd_Q_see_0.2.2.2.2.2.2.2.2.1 (by decide) ?_
  refine g_icmpne (pc := 17) 35 dd_Q_see_0.2.2.2.2.2.2.2.2.2.1 (by decide) (fun c18 => ?_) (fun c18 => ?_)
  · replace hf := (if_neg c18).symm.trans hf
    refine g_lv [0, 1, 2, 3] rfl ?_
    exact t_Q_see_35  _ _ _ _ _ _ _  hf
  · replace hf := (if_pos c18).symm.trans hf
    refine g_aload_n (pc := 20) 0 dd_Q_see_0.2.2.2.2.2.2.2.2.2.2.1 rfl rfl ?_
    obtain ⟨x10, e11, hf⟩ := bd1_e hf
    refine g_get (pc := 21) (ci := 0) (kk := 1) dd_Q_see_0.2.2.2.2.2.2.2.2.2.2.2.1 rfl in_Q (by decide) wd_297 (gR_spec e11) ?_
    refine g_iload_n (pc := 24) 2 dd_Q_see_0.2.2.2.2.2.2.2.2.2.2.2.2.1 rfl rfl ?_
    obtain ⟨u13, e12, hf⟩ := bd1_e hf
    obtain ⟨x16, h14, e15, hf⟩ := bd2_e hf
    refine g_callV (pc := 25) (ci := 4) [.int b2] (site_of si_Realm_hasLaw (by decide) (by decide)) wd_519 wd_488 wd_489 dd_Q_see_0.2.2.2.2.2.2.2.2.2.2.2.2.2.1 rfl e12 (Nat.le_of_ble_eq_true rfl) (fun z => absurd z si_na_Realm_hasLaw) (fun z => absurd z si_na_Realm_hasLaw) (fun z => absurd z si_na_Realm_hasLaw) (c_Realm_hasLaw e15) rfl ?_
    refine g_st [.int x16] rfl ?_
    refine g_ifeq (pc := 28) 35 dd_Q_see_0.2.2.2.2.2.2.2.2.2.2.2.2.2.2.1 (by decide) (fun c17 => ?_) (fun c17 => ?_)
    · replace hf := (if_pos c17).symm.trans hf
      refine g_lv [0, 1, 2, 3] rfl ?_
      exact t_Q_see_35  _ _ _ _ _ _ _  hf
    · replace hf := (if_neg c17).symm.trans hf
      refine g_lv [0, 1, 2, 3] rfl ?_
      exact t_Q_see_31  _ _ _ _ _ _ _  hf
def f_Q_see_0  (a0 : Nat) (a1 : Int32) (a2 : Int32) (a3 : Int32) (h : mH) : Option (Int32 × mH) :=
  if a1 = 0 then
    bd1 (gR h a0 0 1) fun x1 =>
    bd1 (kC h x1 4) fun _ =>
    bd2 (f_Realm_hasOne x1 a2 h) fun x7 h5 =>
    if x7 = 0 then
      f_Q_see_15  a0 a1 a2 a3 h5
    else
      f_Q_see_31  a0 a1 a2 a3 h5
  else
    f_Q_see_15  a0 a1 a2 a3 h
set_option maxRecDepth 20000 in
theorem t_Q_see_0 {sc : Nat × (Nat → Int32)}  (a0 : Nat) (a1 : Int32) (a2 : Int32) (a3 : Int32) (h : mH) (r : Int32) (h' : mH) (hf : f_Q_see_0  a0 a1 a2 a3 h = some (r, h')) : G sc y_Q_see prog_1_method_28_code 5 (some .int) 1 23 0 [(0, .ref a0), (1, .int a1), (2, .int a2), (3, .int a3)] [] h (some (.int r)) h' := by
  unfold f_Q_see_0 at hf
  refine g_iload_n (pc := 0) 1 dd_Q_see_0.1 rfl rfl ?_
  refine g_ifne (pc := 1) 15 dd_Q_see_0.2.1 (by decide) (fun c9 => ?_) (fun c9 => ?_)
  · replace hf := (if_neg c9).symm.trans hf
    refine g_lv [0, 1, 2, 3] rfl ?_
    exact t_Q_see_15  _ _ _ _ _ _ _  hf
  · replace hf := (if_pos c9).symm.trans hf
    refine g_aload_n (pc := 4) 0 dd_Q_see_0.2.2.1 rfl rfl ?_
    obtain ⟨x1, e2, hf⟩ := bd1_e hf
    refine g_get (pc := 5) (ci := 0) (kk := 1) dd_Q_see_0.2.2.2.1 rfl in_Q (by decide) wd_297 (gR_spec e2) ?_
    refine g_iload_n (pc := 8) 2 dd_Q_see_0.2.2.2.2.1 rfl rfl ?_
    obtain ⟨u4, e3, hf⟩ := bd1_e hf
    obtain ⟨x7, h5, e6, hf⟩ := bd2_e hf
    refine g_callV (pc := 9) (ci := 4) [.int a2] (site_of si_Realm_hasOne (by decide) (by decide)) wd_541 wd_492 wd_493 dd_Q_see_0.2.2.2.2.2.1 rfl e3 (Nat.le_of_ble_eq_true rfl) (fun z => absurd z si_na_Realm_hasOne) (fun z => absurd z si_na_Realm_hasOne) (fun z => absurd z si_na_Realm_hasOne) (c_Realm_hasOne e6) rfl ?_
    refine g_st [.int x7] rfl ?_
    refine g_ifne (pc := 12) 31 dd_Q_see_0.2.2.2.2.2.2.1 (by decide) (fun c8 => ?_) (fun c8 => ?_)
    · replace hf := (if_neg c8).symm.trans hf
      refine g_lv [0, 1, 2, 3] rfl ?_
      exact t_Q_see_31  _ _ _ _ _ _ _  hf
    · replace hf := (if_pos c8).symm.trans hf
      refine g_lv [0, 1, 2, 3] rfl ?_
      exact t_Q_see_15  _ _ _ _ _ _ _  hf
def f_Q_see (a0 : Nat) (a1 : Int32) (a2 : Int32) (a3 : Int32) (h : mH) : Option (Int32 × mH) := f_Q_see_0 a0 a1 a2 a3 h
theorem c_Q_see {sc : Nat × (Nat → Int32)} {a0 : Nat} {a1 : Int32} {a2 : Int32} {a3 : Int32} {h : mH} {r : Int32} {h' : mH} (hf : f_Q_see a0 a1 a2 a3 h = some (r, h')) : MM sc y_Q_see prog_1_method_28_code 5 (some .int) 1 23 [.ref a0, .int a1, .int a2, .int a3] h (some (.int r)) h' :=
  mm_of_G si_pn_Q (Nat.le_of_ble_eq_true rfl) (t_Q_see_0 _ _ _ _ _ _ _ hf)
/-! Q forget (I)I -/
set_option maxRecDepth 100000 in
theorem dd_Q_forget_0 : (decode prog_1_method_29_code 0 = .ok (.iload_n 1, 1)) ∧ (decode prog_1_method_29_code 1 = .ok (.iconst 0, 1)) ∧ (decode prog_1_method_29_code 2 = .ok (.aload_n 0, 1)) ∧ (decode prog_1_method_29_code 3 = .ok (.getfield 19, 3)) ∧ (decode prog_1_method_29_code 6 = .ok (.getfield 236, 3)) ∧ (decode prog_1_method_29_code 9 = .ok (.getfield 244, 3)) ∧ (decode prog_1_method_29_code 12 = .ok (.invokestatic 62, 3)) ∧ (decode prog_1_method_29_code 15 = .ok (.ifCond .ne 5, 3)) ∧ (decode prog_1_method_29_code 18 = .ok (.iconst (-1), 1)) ∧ (decode prog_1_method_29_code 19 = .ok (.ireturn, 1)) ∧ (decode prog_1_method_29_code 20 = .ok (.aload_n 0, 1)) ∧ (decode prog_1_method_29_code 21 = .ok (.getfield 19, 3)) ∧ (decode prog_1_method_29_code 24 = .ok (.getfield 236, 3)) ∧ (decode prog_1_method_29_code 27 = .ok (.getfield 244, 3)) ∧ (decode prog_1_method_29_code 30 = .ok (.istore_n 2, 1)) ∧ (decode prog_1_method_29_code 31 = .ok (.aload_n 0, 1)) ∧ (decode prog_1_method_29_code 32 = .ok (.getfield 19, 3)) ∧ (decode prog_1_method_29_code 35 = .ok (.getfield 236, 3)) ∧ (decode prog_1_method_29_code 38 = .ok (.iload_n 1, 1)) ∧ (decode prog_1_method_29_code 39 = .ok (.putfield 244, 3)) ∧ (decode prog_1_method_29_code 42 = .ok (.iload_n 2, 1)) ∧ (decode prog_1_method_29_code 43 = .ok (.ireturn, 1)) := by
  have h : List.drop 0 prog_1_method_29_code.data.toList = 0x1b :: _ := rfl
  refine ⟨zq_k_n 27 h rfl (zq_o_27 _), ?_⟩
  replace h := zq_nx1 (q := 1) h rfl
  refine ⟨zq_k_n 3 h rfl (zq_o_3 _), ?_⟩
  replace h := zq_nx1 (q := 2) h rfl
  refine ⟨zq_k_n 42 h rfl (zq_o_42 _), ?_⟩
  replace h := zq_nx1 (q := 3) h rfl
  refine ⟨zq_k_u2 180 (fun z => .getfield z) 19 h rfl (zq_o_180 _) (by decide +kernel), ?_⟩
  replace h := zq_nx3 (q := 6) h rfl
  refine ⟨zq_k_u2 180 (fun z => .getfield z) 236 h rfl (zq_o_180 _) (by decide +kernel), ?_⟩
  replace h := zq_nx3 (q := 9) h rfl
  refine ⟨zq_k_u2 180 (fun z => .getfield z) 244 h rfl (zq_o_180 _) (by decide +kernel), ?_⟩
  replace h := zq_nx3 (q := 12) h rfl
  refine ⟨zq_k_u2 184 (fun z => .invokestatic z) 62 h rfl (zq_o_184 _) (by decide +kernel), ?_⟩
  replace h := zq_nx3 (q := 15) h rfl
  refine ⟨zq_k_s2 154 (fun z => .ifCond .ne z) 5 h rfl (zq_o_154 _) (by decide +kernel), ?_⟩
  replace h := zq_nx3 (q := 18) h rfl
  refine ⟨zq_k_n 2 h rfl (zq_o_2 _), ?_⟩
  replace h := zq_nx1 (q := 19) h rfl
  refine ⟨zq_k_n 172 h rfl (zq_o_172 _), ?_⟩
  replace h := zq_nx1 (q := 20) h rfl
  refine ⟨zq_k_n 42 h rfl (zq_o_42 _), ?_⟩
  replace h := zq_nx1 (q := 21) h rfl
  refine ⟨zq_k_u2 180 (fun z => .getfield z) 19 h rfl (zq_o_180 _) (by decide +kernel), ?_⟩
  replace h := zq_nx3 (q := 24) h rfl
  refine ⟨zq_k_u2 180 (fun z => .getfield z) 236 h rfl (zq_o_180 _) (by decide +kernel), ?_⟩
  replace h := zq_nx3 (q := 27) h rfl
  refine ⟨zq_k_u2 180 (fun z => .getfield z) 244 h rfl (zq_o_180 _) (by decide +kernel), ?_⟩
  replace h := zq_nx3 (q := 30) h rfl
  refine ⟨zq_k_n 61 h rfl (zq_o_61 _), ?_⟩
  replace h := zq_nx1 (q := 31) h rfl
  refine ⟨zq_k_n 42 h rfl (zq_o_42 _), ?_⟩
  replace h := zq_nx1 (q := 32) h rfl
  refine ⟨zq_k_u2 180 (fun z => .getfield z) 19 h rfl (zq_o_180 _) (by decide +kernel), ?_⟩
  replace h := zq_nx3 (q := 35) h rfl
  refine ⟨zq_k_u2 180 (fun z => .getfield z) 236 h rfl (zq_o_180 _) (by decide +kernel), ?_⟩
  replace h := zq_nx3 (q := 38) h rfl
  refine ⟨zq_k_n 27 h rfl (zq_o_27 _), ?_⟩
  replace h := zq_nx1 (q := 39) h rfl
  refine ⟨zq_k_u2 181 (fun z => .putfield z) 244 h rfl (zq_o_181 _) (by decide +kernel), ?_⟩
  replace h := zq_nx3 (q := 42) h rfl
  refine ⟨zq_k_n 28 h rfl (zq_o_28 _), ?_⟩
  replace h := zq_nx1 (q := 43) h rfl
  exact zq_k_n 172 h rfl (zq_o_172 _)
def f_Q_forget_0  (a0 : Nat) (a1 : Int32) (h : mH) : Option (Int32 × mH) :=
  bd1 (gR h a0 0 1) fun x1 =>
  bd1 (gR h x1 4 18) fun x3 =>
  bd1 (gI h x3 6 0) fun x5 =>
  bd2 (f_Q_isWithin a1 (0 : Int32) x5 h) fun x9 h7 =>
  if x9 = 0 then
    some (((-1) : Int32), h7)
  else
    bd1 (gR h7 a0 0 1) fun x10 =>
    bd1 (gR h7 x10 4 18) fun x12 =>
    bd1 (gI h7 x12 6 0) fun x14 =>
    bd1 (gR h7 a0 0 1) fun x16 =>
    bd1 (gR h7 x16 4 18) fun x18 =>
    bd1 (pV h7 x18 6 0 (.int a1)) fun h20 =>
    some (x14, h20)
set_option maxRecDepth 20000 in
theorem t_Q_forget_0 {sc : Nat × (Nat → Int32)}  (a0 : Nat) (a1 : Int32) (h : mH) (r : Int32) (h' : mH) (hf : f_Q_forget_0  a0 a1 h = some (r, h')) : G sc y_Q_forget prog_1_method_29_code 3 (some .int) 1 22 0 [(0, .ref a0), (1, .int a1)] [] h (some (.int r)) h' := by
  unfold f_Q_forget_0 at hf
  refine g_iload_n (pc := 0) 1 dd_Q_forget_0.1 rfl rfl ?_
  refine g_iconst (pc := 1) (0 : Int32) dd_Q_forget_0.2.1 (by decide) ?_
  refine g_aload_n (pc := 2) 0 dd_Q_forget_0.2.2.1 rfl rfl ?_
  obtain ⟨x1, e2, hf⟩ := bd1_e hf
  refine g_get (pc := 3) (ci := 0) (kk := 1) dd_Q_forget_0.2.2.2.1 rfl in_Q (by decide) wd_297 (gR_spec e2) ?_
  obtain ⟨x3, e4, hf⟩ := bd1_e hf
  refine g_get (pc := 6) (ci := 4) (kk := 18) dd_Q_forget_0.2.2.2.2.1 rfl in_Realm (by decide) wd_155 (gR_spec e4) ?_
  obtain ⟨x5, e6, hf⟩ := bd1_e hf
  refine g_get (pc := 9) (ci := 6) (kk := 0) dd_Q_forget_0.2.2.2.2.2.1 rfl in_Sightings (by decide) wd_79 (gI_spec e6) ?_
  obtain ⟨x9, h7, e8, hf⟩ := bd2_e hf
  refine g_callS (pc := 12) [.int a1, .int (0 : Int32), .int x5] (site_of si_Q_isWithin (by decide) (by decide)) wd_331 wd_332 dd_Q_forget_0.2.2.2.2.2.2.1 (Nat.le_of_ble_eq_true rfl) (fun z => absurd z si_na_Q_isWithin) (fun z => absurd z si_na_Q_isWithin) (fun z => absurd z si_na_Q_isWithin) (c_Q_isWithin e8) rfl ?_
  refine g_st [.int x9] rfl ?_
  refine g_ifne (pc := 15) 20 dd_Q_forget_0.2.2.2.2.2.2.2.1 (by decide) (fun c22 => ?_) (fun c22 => ?_)
  · replace hf := (if_neg c22).symm.trans hf
    refine g_aload_n (pc := 20) 0 dd_Q_forget_0.2.2.2.2.2.2.2.2.2.2.1 rfl rfl ?_
    obtain ⟨x10, e11, hf⟩ := bd1_e hf
    refine g_get (pc := 21) (ci := 0) (kk := 1) dd_Q_forget_0.2.2.2.2.2.2.2.2.2.2.2.1 rfl in_Q (by decide) wd_297 (gR_spec e11) ?_
    obtain ⟨x12, e13, hf⟩ := bd1_e hf
    refine g_get (pc := 24) (ci := 4) (kk := 18) dd_Q_forget_0.2.2.2.2.2.2.2.2.2.2.2.2.1 rfl in_Realm (by decide) wd_155 (gR_spec e13) ?_
    obtain ⟨x14, e15, hf⟩ := bd1_e hf
    refine g_get (pc := 27) (ci := 6) (kk := 0) dd_Q_forget_0.2.2.2.2.2.2.2.2.2.2.2.2.2.1 rfl in_Sightings (by decide) wd_79 (gI_spec e15) ?_
    refine g_istore_n (pc := 30) [(2, .int x14), (0, .ref a0), (1, .int a1)] dd_Q_forget_0.2.2.2.2.2.2.2.2.2.2.2.2.2.2.1 rfl (Nat.le_of_ble_eq_true rfl) rfl ?_
    refine g_aload_n (pc := 31) 1 dd_Q_forget_0.2.2.2.2.2.2.2.2.2.2.2.2.2.2.2.1 rfl rfl ?_
    obtain ⟨x16, e17, hf⟩ := bd1_e hf
    refine g_get (pc := 32) (ci := 0) (kk := 1) dd_Q_forget_0.2.2.2.2.2.2.2.2.2.2.2.2.2.2.2.2.1 rfl in_Q (by decide) wd_297 (gR_spec e17) ?_
    obtain ⟨x18, e19, hf⟩ := bd1_e hf
    refine g_get (pc := 35) (ci := 4) (kk := 18) dd_Q_forget_0.2.2.2.2.2.2.2.2.2.2.2.2.2.2.2.2.2.1 rfl in_Realm (by decide) wd_155 (gR_spec e19) ?_
    refine g_iload_n (pc := 38) 2 dd_Q_forget_0.2.2.2.2.2.2.2.2.2.2.2.2.2.2.2.2.2.2.1 rfl rfl ?_
    obtain ⟨h20, e21, hf⟩ := bd1_e hf
    refine g_put (pc := 39) (ci := 6) (kk := 0) ty_Sightings tyok_Sightings nm_Sightings dd_Q_forget_0.2.2.2.2.2.2.2.2.2.2.2.2.2.2.2.2.2.2.2.1 rfl in_Sightings (by decide) wd_79 rfl (fun _ => rfl) (fun _ => rfl) (fun _ z => by cases z) e21 ?_
    refine g_iload_n (pc := 42) 0 dd_Q_forget_0.2.2.2.2.2.2.2.2.2.2.2.2.2.2.2.2.2.2.2.2.1 rfl rfl ?_
    obtain ⟨rfl, rfl⟩ := ret2 hf
    exact g_iret (pc := 43) rfl dd_Q_forget_0.2.2.2.2.2.2.2.2.2.2.2.2.2.2.2.2.2.2.2.2.2
  · replace hf := (if_pos c22).symm.trans hf
    refine g_iconst (pc := 18) ((-1) : Int32) dd_Q_forget_0.2.2.2.2.2.2.2.2.1 (by decide) ?_
    obtain ⟨rfl, rfl⟩ := ret2 hf
    exact g_iret (pc := 19) rfl dd_Q_forget_0.2.2.2.2.2.2.2.2.2.1
def f_Q_forget (a0 : Nat) (a1 : Int32) (h : mH) : Option (Int32 × mH) := f_Q_forget_0 a0 a1 h
theorem c_Q_forget {sc : Nat × (Nat → Int32)} {a0 : Nat} {a1 : Int32} {h : mH} {r : Int32} {h' : mH} (hf : f_Q_forget a0 a1 h = some (r, h')) : MM sc y_Q_forget prog_1_method_29_code 3 (some .int) 1 22 [.ref a0, .int a1] h (some (.int r)) h' :=
  mm_of_G si_pn_Q (Nat.le_of_ble_eq_true rfl) (t_Q_forget_0 _ _ _ _ _ hf)
/-! Sightings sumDue (II)I -/
set_option maxRecDepth 100000 in
theorem dd_Sightings_sumDue_0 : (decode prog_7_method_3_code 0 = .ok (.iconst (-1), 1)) ∧ (decode prog_7_method_3_code 1 = .ok (.istore_n 3, 1)) ∧ (decode prog_7_method_3_code 2 = .ok (.iconst 0, 1)) ∧ (decode prog_7_method_3_code 3 = .ok (.istore 4, 2)) ∧ (decode prog_7_method_3_code 5 = .ok (.iload 4, 2)) ∧ (decode prog_7_method_3_code 7 = .ok (.aload_n 0, 1)) ∧ (decode prog_7_method_3_code 8 = .ok (.getfield 21, 3)) ∧ (decode prog_7_method_3_code 11 = .ok (.if_icmp .ge 60, 3)) ∧ (decode prog_7_method_3_code 14 = .ok (.aload_n 0, 1)) ∧ (decode prog_7_method_3_code 15 = .ok (.getfield 9, 3)) ∧ (decode prog_7_method_3_code 18 = .ok (.iload 4, 2)) ∧ (decode prog_7_method_3_code 20 = .ok (.iaload, 1)) ∧ (decode prog_7_method_3_code 21 = .ok (.iload_n 1, 1)) ∧ (decode prog_7_method_3_code 22 = .ok (.if_icmp .ne 43, 3)) ∧ (decode prog_7_method_3_code 25 = .ok (.aload_n 0, 1)) ∧ (decode prog_7_method_3_code 26 = .ok (.getfield 15, 3)) ∧ (decode prog_7_method_3_code 29 = .ok (.iload 4, 2)) ∧ (decode prog_7_method_3_code 31 = .ok (.iaload, 1)) ∧ (decode prog_7_method_3_code 32 = .ok (.iload_n 2, 1)) ∧ (decode prog_7_method_3_code 33 = .ok (.if_icmp .ne 32, 3)) ∧ (decode prog_7_method_3_code 36 = .ok (.iload_n 3, 1)) ∧ (decode prog_7_method_3_code 37 = .ok (.iconst (-1), 1)) ∧ (decode prog_7_method_3_code 38 = .ok (.if_icmp .eq 14, 3)) ∧ (decode prog_7_method_3_code 41 = .ok (.iload_n 3, 1)) := by
  have h : List.drop 0 prog_7_method_3_code.data.toList = 0x02 :: _ := rfl
  refine ⟨zq_k_n 2 h rfl (zq_o_2 _), ?_⟩
  replace h := zq_nx1 (q := 1) h rfl
  refine ⟨zq_k_n 62 h rfl (zq_o_62 _), ?_⟩
  replace h := zq_nx1 (q := 2) h rfl
  refine ⟨zq_k_n 3 h rfl (zq_o_3 _), ?_⟩
  replace h := zq_nx1 (q := 3) h rfl
  refine ⟨zq_k_u1 54 (fun z => .istore z) 4 h rfl (zq_o_54 _) (by decide +kernel), ?_⟩
  replace h := zq_nx2 (q := 5) h rfl
  refine ⟨zq_k_u1 21 (fun z => .iload z) 4 h rfl (zq_o_21 _) (by decide +kernel), ?_⟩
  replace h := zq_nx2 (q := 7) h rfl
  refine ⟨zq_k_n 42 h rfl (zq_o_42 _), ?_⟩
  replace h := zq_nx1 (q := 8) h rfl
  refine ⟨zq_k_u2 180 (fun z => .getfield z) 21 h rfl (zq_o_180 _) (by decide +kernel), ?_⟩
  replace h := zq_nx3 (q := 11) h rfl
  refine ⟨zq_k_s2 162 (fun z => .if_icmp .ge z) 60 h rfl (zq_o_162 _) (by decide +kernel), ?_⟩
  replace h := zq_nx3 (q := 14) h rfl
  refine ⟨zq_k_n 42 h rfl (zq_o_42 _), ?_⟩
  replace h := zq_nx1 (q := 15) h rfl
  refine ⟨zq_k_u2 180 (fun z => .getfield z) 9 h rfl (zq_o_180 _) (by decide +kernel), ?_⟩
  replace h := zq_nx3 (q := 18) h rfl
  refine ⟨zq_k_u1 21 (fun z => .iload z) 4 h rfl (zq_o_21 _) (by decide +kernel), ?_⟩
  replace h := zq_nx2 (q := 20) h rfl
  refine ⟨zq_k_n 46 h rfl (zq_o_46 _), ?_⟩
  replace h := zq_nx1 (q := 21) h rfl
  refine ⟨zq_k_n 27 h rfl (zq_o_27 _), ?_⟩
  replace h := zq_nx1 (q := 22) h rfl
  refine ⟨zq_k_s2 160 (fun z => .if_icmp .ne z) 43 h rfl (zq_o_160 _) (by decide +kernel), ?_⟩
  replace h := zq_nx3 (q := 25) h rfl
  refine ⟨zq_k_n 42 h rfl (zq_o_42 _), ?_⟩
  replace h := zq_nx1 (q := 26) h rfl
  refine ⟨zq_k_u2 180 (fun z => .getfield z) 15 h rfl (zq_o_180 _) (by decide +kernel), ?_⟩
  replace h := zq_nx3 (q := 29) h rfl
  refine ⟨zq_k_u1 21 (fun z => .iload z) 4 h rfl (zq_o_21 _) (by decide +kernel), ?_⟩
  replace h := zq_nx2 (q := 31) h rfl
  refine ⟨zq_k_n 46 h rfl (zq_o_46 _), ?_⟩
  replace h := zq_nx1 (q := 32) h rfl
  refine ⟨zq_k_n 28 h rfl (zq_o_28 _), ?_⟩
  replace h := zq_nx1 (q := 33) h rfl
  refine ⟨zq_k_s2 160 (fun z => .if_icmp .ne z) 32 h rfl (zq_o_160 _) (by decide +kernel), ?_⟩
  replace h := zq_nx3 (q := 36) h rfl
  refine ⟨zq_k_n 29 h rfl (zq_o_29 _), ?_⟩
  replace h := zq_nx1 (q := 37) h rfl
  refine ⟨zq_k_n 2 h rfl (zq_o_2 _), ?_⟩
  replace h := zq_nx1 (q := 38) h rfl
  refine ⟨zq_k_s2 159 (fun z => .if_icmp .eq z) 14 h rfl (zq_o_159 _) (by decide +kernel), ?_⟩
  replace h := zq_nx3 (q := 41) h rfl
  exact zq_k_n 29 h rfl (zq_o_29 _)
set_option maxRecDepth 100000 in
theorem dd_Sightings_sumDue_42 : (decode prog_7_method_3_code 42 = .ok (.aload_n 0, 1)) ∧ (decode prog_7_method_3_code 43 = .ok (.getfield 18, 3)) ∧ (decode prog_7_method_3_code 46 = .ok (.iload 4, 2)) ∧ (decode prog_7_method_3_code 48 = .ok (.iaload, 1)) ∧ (decode prog_7_method_3_code 49 = .ok (.if_icmp .ne 13, 3)) ∧ (decode prog_7_method_3_code 52 = .ok (.aload_n 0, 1)) ∧ (decode prog_7_method_3_code 53 = .ok (.getfield 18, 3)) ∧ (decode prog_7_method_3_code 56 = .ok (.iload 4, 2)) ∧ (decode prog_7_method_3_code 58 = .ok (.iaload, 1)) ∧ (decode prog_7_method_3_code 59 = .ok (.goto 5, 3)) ∧ (decode prog_7_method_3_code 62 = .ok (.bipush 99, 2)) ∧ (decode prog_7_method_3_code 64 = .ok (.istore_n 3, 1)) ∧ (decode prog_7_method_3_code 65 = .ok (.iinc 4 1, 3)) ∧ (decode prog_7_method_3_code 68 = .ok (.goto (-63), 3)) ∧ (decode prog_7_method_3_code 71 = .ok (.iload_n 3, 1)) ∧ (decode prog_7_method_3_code 72 = .ok (.ireturn, 1)) := by
  have h : List.drop 42 prog_7_method_3_code.data.toList = 0x2a :: _ := rfl
  refine ⟨zq_k_n 42 h rfl (zq_o_42 _), ?_⟩
  replace h := zq_nx1 (q := 43) h rfl
  refine ⟨zq_k_u2 180 (fun z => .getfield z) 18 h rfl (zq_o_180 _) (by decide +kernel), ?_⟩
  replace h := zq_nx3 (q := 46) h rfl
  refine ⟨zq_k_u1 21 (fun z => .iload z) 4 h rfl (zq_o_21 _) (by decide +kernel), ?_⟩
  replace h := zq_nx2 (q := 48) h rfl
  refine ⟨zq_k_n 46 h rfl (zq_o_46 _), ?_⟩
  replace h := zq_nx1 (q := 49) h rfl
  refine ⟨zq_k_s2 160 (fun z => .if_icmp .ne z) 13 h rfl (zq_o_160 _) (by decide +kernel), ?_⟩
  replace h := zq_nx3 (q := 52) h rfl
  refine ⟨zq_k_n 42 h rfl (zq_o_42 _), ?_⟩
  replace h := zq_nx1 (q := 53) h rfl
  refine ⟨zq_k_u2 180 (fun z => .getfield z) 18 h rfl (zq_o_180 _) (by decide +kernel), ?_⟩
  replace h := zq_nx3 (q := 56) h rfl
  refine ⟨zq_k_u1 21 (fun z => .iload z) 4 h rfl (zq_o_21 _) (by decide +kernel), ?_⟩
  replace h := zq_nx2 (q := 58) h rfl
  refine ⟨zq_k_n 46 h rfl (zq_o_46 _), ?_⟩
  replace h := zq_nx1 (q := 59) h rfl
  refine ⟨zq_k_s2 167 (fun z => .goto z) 5 h rfl (zq_o_167 _) (by decide +kernel), ?_⟩
  replace h := zq_nx3 (q := 62) h rfl
  refine ⟨zq_k_s1 16 (fun z => .bipush z) 99 h rfl (zq_o_16 _) (by decide +kernel), ?_⟩
  replace h := zq_nx2 (q := 64) h rfl
  refine ⟨zq_k_n 62 h rfl (zq_o_62 _), ?_⟩
  replace h := zq_nx1 (q := 65) h rfl
  refine ⟨zq_k_iinc 4 1 h rfl (zq_o_132 _) (by decide +kernel) (by decide +kernel), ?_⟩
  replace h := zq_nx3 (q := 68) h rfl
  refine ⟨zq_k_s2 167 (fun z => .goto z) (-63) h rfl (zq_o_167 _) (by decide +kernel), ?_⟩
  replace h := zq_nx3 (q := 71) h rfl
  refine ⟨zq_k_n 29 h rfl (zq_o_29 _), ?_⟩
  replace h := zq_nx1 (q := 72) h rfl
  exact zq_k_n 172 h rfl (zq_o_172 _)
def f_Sightings_sumDue_65 (rec5 : Nat → Int32 → Int32 → Int32 → Int32 → mH → Option (Int32 × mH)) (b0 : Nat) (b1 : Int32) (b2 : Int32) (b3 : Int32) (b4 : Int32) (h : mH) : Option (Int32 × mH) :=
  rec5 b0 b1 b2 b3 (b4 + (1 : Int32)) h
set_option maxRecDepth 20000 in
theorem t_Sightings_sumDue_65 {sc : Nat × (Nat → Int32)} (rec5 : Nat → Int32 → Int32 → Int32 → Int32 → mH → Option (Int32 × mH)) (hrec5 : ∀ (b0 : Nat) (b1 : Int32) (b2 : Int32) (b3 : Int32) (b4 : Int32) (h : mH) (r : Int32) (h' : mH), rec5 b0 b1 b2 b3 b4 h = some (r, h') → G sc y_Sightings_sumDue prog_7_method_3_code 5 (some .int) 0 0 5 [(0, .ref b0), (1, .int b1), (2, .int b2), (3, .int b3), (4, .int b4)] [] h (some (.int r)) h') (b0 : Nat) (b1 : Int32) (b2 : Int32) (b3 : Int32) (b4 : Int32) (h : mH) (r : Int32) (h' : mH) (hf : f_Sightings_sumDue_65 rec5 b0 b1 b2 b3 b4 h = some (r, h')) : G sc y_Sightings_sumDue prog_7_method_3_code 5 (some .int) 0 0 65 [(0, .ref b0), (1, .int b1), (2, .int b2), (3, .int b3), (4, .int b4)] [] h (some (.int r)) h' := by
  unfold f_Sightings_sumDue_65 at hf
  refine g_iinc (pc := 65) 4 (b4 + (1 : Int32)) [(4, .int (b4 + (1 : Int32))), (0, .ref b0), (1, .int b1), (2, .int b2), (3, .int b3)] dd_Sightings_sumDue_42.2.2.2.2.2.2.2.2.2.2.2.2.1 rfl rfl (Nat.le_of_ble_eq_true rfl) rfl ?_
  refine g_goto (pc := 68) 5 dd_Sightings_sumDue_42.2.2.2.2.2.2.2.2.2.2.2.2.2.1 (by decide) ?_
  refine g_lv [1, 2, 3, 4, 0] rfl ?_
  exact hrec5 _ _ _ _ _ _ _ _  hf
def f_Sightings_sumDue_64 (rec5 : Nat → Int32 → Int32 → Int32 → Int32 → mH → Option (Int32 × mH)) (b0 : Nat) (b1 : Int32) (b2 : Int32) (b4 : Int32) (s0 : Int32) (h : mH) : Option (Int32 × mH) :=
  f_Sightings_sumDue_65 rec5 b0 b1 b2 s0 b4 h
set_option maxRecDepth 20000 in
theorem t_Sightings_sumDue_64 {sc : Nat × (Nat → Int32)} (rec5 : Nat → Int32 → Int32 → Int32 → Int32 → mH → Option (Int32 × mH)) (hrec5 : ∀ (b0 : Nat) (b1 : Int32) (b2 : Int32) (b3 : Int32) (b4 : Int32) (h : mH) (r : Int32) (h' : mH), rec5 b0 b1 b2 b3 b4 h = some (r, h') → G sc y_Sightings_sumDue prog_7_method_3_code 5 (some .int) 0 0 5 [(0, .ref b0), (1, .int b1), (2, .int b2), (3, .int b3), (4, .int b4)] [] h (some (.int r)) h') (b0 : Nat) (b1 : Int32) (b2 : Int32) (b4 : Int32) (s0 : Int32) (h : mH) (r : Int32) (h' : mH) (hf : f_Sightings_sumDue_64 rec5 b0 b1 b2 b4 s0 h = some (r, h')) : G sc y_Sightings_sumDue prog_7_method_3_code 5 (some .int) 0 0 64 [(0, .ref b0), (1, .int b1), (2, .int b2), (4, .int b4)] [.int s0] h (some (.int r)) h' := by
  unfold f_Sightings_sumDue_64 at hf
  refine g_istore_n (pc := 64) [(3, .int s0), (0, .ref b0), (1, .int b1), (2, .int b2), (4, .int b4)] dd_Sightings_sumDue_42.2.2.2.2.2.2.2.2.2.2.2.1 rfl (Nat.le_of_ble_eq_true rfl) rfl ?_
  refine g_lv [1, 2, 3, 0, 4] rfl ?_
  exact t_Sightings_sumDue_65 rec5 hrec5 _ _ _ _ _ _ _ _  hf
def f_Sightings_sumDue_52 (rec5 : Nat → Int32 → Int32 → Int32 → Int32 → mH → Option (Int32 × mH)) (b0 : Nat) (b1 : Int32) (b2 : Int32) (b4 : Int32) (h : mH) : Option (Int32 × mH) :=
  bd1 (gR h b0 6 3) fun x20 =>
  bd1 (aI h 0 x20 b4) fun x22 =>
  f_Sightings_sumDue_64 rec5 b0 b1 b2 b4 x22 h
set_option maxRecDepth 20000 in
theorem t_Sightings_sumDue_52 {sc : Nat × (Nat → Int32)} (rec5 : Nat → Int32 → Int32 → Int32 → Int32 → mH → Option (Int32 × mH)) (hrec5 : ∀ (b0 : Nat) (b1 : Int32) (b2 : Int32) (b3 : Int32) (b4 : Int32) (h : mH) (r : Int32) (h' : mH), rec5 b0 b1 b2 b3 b4 h = some (r, h') → G sc y_Sightings_sumDue prog_7_method_3_code 5 (some .int) 0 0 5 [(0, .ref b0), (1, .int b1), (2, .int b2), (3, .int b3), (4, .int b4)] [] h (some (.int r)) h') (b0 : Nat) (b1 : Int32) (b2 : Int32) (b4 : Int32) (h : mH) (r : Int32) (h' : mH) (hf : f_Sightings_sumDue_52 rec5 b0 b1 b2 b4 h = some (r, h')) : G sc y_Sightings_sumDue prog_7_method_3_code 5 (some .int) 0 0 52 [(0, .ref b0), (1, .int b1), (2, .int b2), (4, .int b4)] [] h (some (.int r)) h' := by
  unfold f_Sightings_sumDue_52 at hf
  refine g_aload_n (pc := 52) 0 dd_Sightings_sumDue_42.2.2.2.2.2.1 rfl rfl ?_
  obtain ⟨x20, e21, hf⟩ := bd1_e hf
  refine g_get (pc := 53) (ci := 6) (kk := 3) dd_Sightings_sumDue_42.2.2.2.2.2.2.1 rfl in_Sightings (by decide) wd_82 (gR_spec e21) ?_
  refine g_iload (pc := 56) 3 dd_Sightings_sumDue_42.2.2.2.2.2.2.2.1 rfl ?_
  obtain ⟨x22, e23, hf⟩ := bd1_e hf
  refine g_iald (pc := 58) dd_Sightings_sumDue_42.2.2.2.2.2.2.2.2.1 e23 ?_
  refine g_goto (pc := 59) 64 dd_Sightings_sumDue_42.2.2.2.2.2.2.2.2.2.1 (by decide) ?_
  refine g_lv [0, 1, 2, 3] rfl ?_
  exact t_Sightings_sumDue_64 rec5 hrec5 _ _ _ _ _ _ _ _  hf
def f_Sightings_sumDue_5b (rec5 : Nat → Int32 → Int32 → Int32 → Int32 → mH → Option (Int32 × mH)) (b0 : Nat) (b1 : Int32) (b2 : Int32) (b3 : Int32) (b4 : Int32) (h : mH) : Option (Int32 × mH) :=
  bd1 (gI h b0 6 0) fun x1 =>
  if x1 ≤ b4 then
    some (b3, h)
  else
    bd1 (gR h b0 6 1) fun x3 =>
    bd1 (aI h 0 x3 b4) fun x5 =>
    if x5 = b1 then
      bd1 (gR h b0 6 2) fun x7 =>
      bd1 (aI h 0 x7 b4) fun x9 =>
      if x9 = b2 then
        if b3 = ((-1) : Int32) then
          f_Sightings_sumDue_52 rec5 b0 b1 b2 b4 h
        else
          bd1 (gR h b0 6 3) fun x11 =>
          bd1 (aI h 0 x11 b4) fun x13 =>
          if b3 = x13 then
            f_Sightings_sumDue_52 rec5 b0 b1 b2 b4 h
          else
            f_Sightings_sumDue_64 rec5 b0 b1 b2 b4 (99 : Int32) h
      else
        f_Sightings_sumDue_65 rec5 b0 b1 b2 b3 b4 h
    else
      f_Sightings_sumDue_65 rec5 b0 b1 b2 b3 b4 h
set_option maxRecDepth 20000 in
theorem t_Sightings_sumDue_5b {sc : Nat × (Nat → Int32)} (rec5 : Nat → Int32 → Int32 → Int32 → Int32 → mH → Option (Int32 × mH)) (hrec5 : ∀ (b0 : Nat) (b1 : Int32) (b2 : Int32) (b3 : Int32) (b4 : Int32) (h : mH) (r : Int32) (h' : mH), rec5 b0 b1 b2 b3 b4 h = some (r, h') → G sc y_Sightings_sumDue prog_7_method_3_code 5 (some .int) 0 0 5 [(0, .ref b0), (1, .int b1), (2, .int b2), (3, .int b3), (4, .int b4)] [] h (some (.int r)) h') (b0 : Nat) (b1 : Int32) (b2 : Int32) (b3 : Int32) (b4 : Int32) (h : mH) (r : Int32) (h' : mH) (hf : f_Sightings_sumDue_5b rec5 b0 b1 b2 b3 b4 h = some (r, h')) : G sc y_Sightings_sumDue prog_7_method_3_code 5 (some .int) 0 0 5 [(0, .ref b0), (1, .int b1), (2, .int b2), (3, .int b3), (4, .int b4)] [] h (some (.int r)) h' := by
  unfold f_Sightings_sumDue_5b at hf
  refine g_iload (pc := 5) 4 dd_Sightings_sumDue_0.2.2.2.2.1 rfl ?_
  refine g_aload_n (pc := 7) 0 dd_Sightings_sumDue_0.2.2.2.2.2.1 rfl rfl ?_
  obtain ⟨x1, e2, hf⟩ := bd1_e hf
  refine g_get (pc := 8) (ci := 6) (kk := 0) dd_Sightings_sumDue_0.2.2.2.2.2.2.1 rfl in_Sightings (by decide) wd_77 (gI_spec e2) ?_
  refine g_icmpge (pc := 11) 71 dd_Sightings_sumDue_0.2.2.2.2.2.2.2.1 (by decide) (fun c19 => ?_) (fun c19 => ?_)
  · replace hf := (if_pos c19).symm.trans hf
    refine g_iload_n (pc := 71) 3 dd_Sightings_sumDue_42.2.2.2.2.2.2.2.2.2.2.2.2.2.2.1 rfl rfl ?_
    obtain ⟨rfl, rfl⟩ := ret2 hf
    exact g_iret (pc := 72) rfl dd_Sightings_sumDue_42.2.2.2.2.2.2.2.2.2.2.2.2.2.2.2
  · replace hf := (if_neg c19).symm.trans hf
    refine g_aload_n (pc := 14) 0 dd_Sightings_sumDue_0.2.2.2.2.2.2.2.2.1 rfl rfl ?_
    obtain ⟨x3, e4, hf⟩ := bd1_e hf
    refine g_get (pc := 15) (ci := 6) (kk := 1) dd_Sightings_sumDue_0.2.2.2.2.2.2.2.2.2.1 rfl in_Sightings (by decide) wd_80 (gR_spec e4) ?_
    refine g_iload (pc := 18) 4 dd_Sightings_sumDue_0.2.2.2.2.2.2.2.2.2.2.1 rfl ?_
    obtain ⟨x5, e6, hf⟩ := bd1_e hf
    refine g_iald (pc := 20) dd_Sightings_sumDue_0.2.2.2.2.2.2.2.2.2.2.2.1 e6 ?_
    refine g_iload_n (pc := 21) 1 dd_Sightings_sumDue_0.2.2.2.2.2.2.2.2.2.2.2.2.1 rfl rfl ?_
    refine g_icmpne (pc := 22) 65 dd_Sightings_sumDue_0.2.2.2.2.2.2.2.2.2.2.2.2.2.1 (by decide) (fun c18 => ?_) (fun c18 => ?_)
    · replace hf := (if_neg c18).symm.trans hf
      refine g_lv [0, 1, 2, 3, 4] rfl ?_
      exact t_Sightings_sumDue_65 rec5 hrec5 _ _ _ _ _ _ _ _  hf
    · replace hf := (if_pos c18).symm.trans hf
      refine g_aload_n (pc := 25) 0 dd_Sightings_sumDue_0.2.2.2.2.2.2.2.2.2.2.2.2.2.2.1 rfl rfl ?_
      obtain ⟨x7, e8, hf⟩ := bd1_e hf
      refine g_get (pc := 26) (ci := 6) (kk := 2) dd_Sightings_sumDue_0.2.2.2.2.2.2.2.2.2.2.2.2.2.2.2.1 rfl in_Sightings (by decide) wd_81 (gR_spec e8) ?_
      refine g_iload (pc := 29) 4 dd_Sightings_sumDue_0.2.2.2.2.2.2.2.2.2.2.2.2.2.2.2.2.1 rfl ?_
      obtain ⟨x9, e10, hf⟩ := bd1_e hf
      refine g_iald (pc := 31) dd_Sightings_sumDue_0.2.2.2.2.2.2.2.2.2.2.2.2.2.2.2.2.2.1 e10 ?_
      refine g_iload_n (pc := 32) 2 dd_Sightings_sumDue_0.2.2.2.2.2.2.2.2.2.2.2.2.2.2.2.2.2.2.1 rfl rfl ?_
      refine g_icmpne (pc := 33) 65 dd_Sightings_sumDue_0.2.2.2.2.2.2.2.2.2.2.2.2.2.2.2.2.2.2.2.1 (by decide) (fun c17 => ?_) (fun c17 => ?_)
      · replace hf := (if_neg c17).symm.trans hf
        refine g_lv [0, 1, 2, 3, 4] rfl ?_
        exact t_Sightings_sumDue_65 rec5 hrec5 _ _ _ _ _ _ _ _  hf
      · replace hf := (if_pos c17).symm.trans hf
        refine g_iload_n (pc := 36) 3 dd_Sightings_sumDue_0.2.2.2.2.2.2.2.2.2.2.2.2.2.2.2.2.2.2.2.2.1 rfl rfl ?_
        refine g_iconst (pc := 37) ((-1) : Int32) dd_Sightings_sumDue_0.2.2.2.2.2.2.2.2.2.2.2.2.2.2.2.2.2.2.2.2.2.1 (by decide) ?_
        refine g_icmpeq (pc := 38) 52 dd_Sightings_sumDue_0.2.2.2.2.2.2.2.2.2.2.2.2.2.2.2.2.2.2.2.2.2.2.1 (by decide) (fun c16 => ?_) (fun c16 => ?_)
        · replace hf := (if_pos c16).symm.trans hf
          refine g_lv [0, 1, 2, 4] rfl ?_
          exact t_Sightings_sumDue_52 rec5 hrec5 _ _ _ _ _ _ _  hf
        · replace hf := (if_neg c16).symm.trans hf
          refine g_iload_n (pc := 41) 3 dd_Sightings_sumDue_0.2.2.2.2.2.2.2.2.2.2.2.2.2.2.2.2.2.2.2.2.2.2.2 rfl rfl ?_
          refine g_aload_n (pc := 42) 0 dd_Sightings_sumDue_42.1 rfl rfl ?_
          obtain ⟨x11, e12, hf⟩ := bd1_e hf
          refine g_get (pc := 43) (ci := 6) (kk := 3) dd_Sightings_sumDue_42.2.1 rfl in_Sightings (by decide) wd_82 (gR_spec e12) ?_
          refine g_iload (pc := 46) 4 dd_Sightings_sumDue_42.2.2.1 rfl ?_
          obtain ⟨x13, e14, hf⟩ := bd1_e hf
          refine g_iald (pc := 48) dd_Sightings_sumDue_42.2.2.2.1 e14 ?_
          refine g_icmpne (pc := 49) 62 dd_Sightings_sumDue_42.2.2.2.2.1 (by decide) (fun c15 => ?_) (fun c15 => ?_)
          · replace hf := (if_neg c15).symm.trans hf
            refine g_bipush (pc := 62) (99 : Int32) dd_Sightings_sumDue_42.2.2.2.2.2.2.2.2.2.2.1 (by decide) ?_
            refine g_lv [0, 1, 2, 4] rfl ?_
            exact t_Sightings_sumDue_64 rec5 hrec5 _ _ _ _ _ _ _ _  hf
          · replace hf := (if_pos c15).symm.trans hf
            refine g_lv [0, 1, 2, 4] rfl ?_
            exact t_Sightings_sumDue_52 rec5 hrec5 _ _ _ _ _ _ _  hf
def f_Sightings_sumDue_5  : Nat → Nat → Int32 → Int32 → Int32 → Int32 → mH → Option (Int32 × mH)
  | 0 => fun _ _ _ _ _ _ => none
  | n + 1 => f_Sightings_sumDue_5b  (f_Sightings_sumDue_5  n)
theorem t_Sightings_sumDue_5 {sc : Nat × (Nat → Int32)}  : ∀ (n : Nat) (b0 : Nat) (b1 : Int32) (b2 : Int32) (b3 : Int32) (b4 : Int32) (h : mH) (r : Int32) (h' : mH) (hf : f_Sightings_sumDue_5  n b0 b1 b2 b3 b4 h = some (r, h')), G sc y_Sightings_sumDue prog_7_method_3_code 5 (some .int) 0 0 5 [(0, .ref b0), (1, .int b1), (2, .int b2), (3, .int b3), (4, .int b4)] [] h (some (.int r)) h'
  | 0, _, _, _, _, _, _, _, _, hf => by cases hf
  | n + 1, _, _, _, _, _, _, _, _, hf => t_Sightings_sumDue_5b  (f_Sightings_sumDue_5  n) (t_Sightings_sumDue_5  n) _ _ _ _ _ _ _ _ hf
def f_Sightings_sumDue_0  (a0 : Nat) (a1 : Int32) (a2 : Int32) (h : mH) : Option (Int32 × mH) :=
  f_Sightings_sumDue_5  FU a0 a1 a2 ((-1) : Int32) (0 : Int32) h
set_option maxRecDepth 20000 in
theorem t_Sightings_sumDue_0 {sc : Nat × (Nat → Int32)}  (a0 : Nat) (a1 : Int32) (a2 : Int32) (h : mH) (r : Int32) (h' : mH) (hf : f_Sightings_sumDue_0  a0 a1 a2 h = some (r, h')) : G sc y_Sightings_sumDue prog_7_method_3_code 5 (some .int) 0 0 0 [(0, .ref a0), (1, .int a1), (2, .int a2)] [] h (some (.int r)) h' := by
  unfold f_Sightings_sumDue_0 at hf
  refine g_iconst (pc := 0) ((-1) : Int32) dd_Sightings_sumDue_0.1 (by decide) ?_
  refine g_istore_n (pc := 1) [(3, .int ((-1) : Int32)), (0, .ref a0), (1, .int a1), (2, .int a2)] dd_Sightings_sumDue_0.2.1 rfl (Nat.le_of_ble_eq_true rfl) rfl ?_
  refine g_iconst (pc := 2) (0 : Int32) dd_Sightings_sumDue_0.2.2.1 (by decide) ?_
  refine g_istore (pc := 3) [(4, .int (0 : Int32)), (3, .int ((-1) : Int32)), (0, .ref a0), (1, .int a1), (2, .int a2)] dd_Sightings_sumDue_0.2.2.2.1 (Nat.le_of_ble_eq_true rfl) rfl ?_
  refine g_lv [2, 3, 4, 1, 0] rfl ?_
  exact t_Sightings_sumDue_5  FU _ _ _ _ _ _ _ _  hf
def f_Sightings_sumDue (a0 : Nat) (a1 : Int32) (a2 : Int32) (h : mH) : Option (Int32 × mH) := f_Sightings_sumDue_0 a0 a1 a2 h
theorem c_Sightings_sumDue {sc : Nat × (Nat → Int32)} {a0 : Nat} {a1 : Int32} {a2 : Int32} {h : mH} {r : Int32} {h' : mH} (hf : f_Sightings_sumDue a0 a1 a2 h = some (r, h')) : MM sc y_Sightings_sumDue prog_7_method_3_code 5 (some .int) 0 0 [.ref a0, .int a1, .int a2] h (some (.int r)) h' :=
  mm_of_G si_pn_Sightings (Nat.le_of_ble_eq_true rfl) (t_Sightings_sumDue_0 _ _ _ _ _ _ hf)
/-! Tables load (LQuotaLaws$Realm;)V -/
set_option maxRecDepth 100000 in
theorem dd_Tables_load_0 : (decode prog_8_method_2_code 0 = .ok (.aload_n 0, 1)) ∧ (decode prog_8_method_2_code 1 = .ok (.aload_n 1, 1)) ∧ (decode prog_8_method_2_code 2 = .ok (.getfield 34, 3)) ∧ (decode prog_8_method_2_code 5 = .ok (.putfield 40, 3)) ∧ (decode prog_8_method_2_code 8 = .ok (.aload_n 0, 1)) ∧ (decode prog_8_method_2_code 9 = .ok (.getfield 9, 3)) ∧ (decode prog_8_method_2_code 12 = .ok (.iconst 0, 1)) ∧ (decode prog_8_method_2_code 13 = .ok (.invokestatic 41, 3)) ∧ (decode prog_8_method_2_code 16 = .ok (.aload_n 0, 1)) ∧ (decode prog_8_method_2_code 17 = .ok (.getfield 15, 3)) ∧ (decode prog_8_method_2_code 20 = .ok (.iconst 0, 1)) ∧ (decode prog_8_method_2_code 21 = .ok (.invokestatic 41, 3)) ∧ (decode prog_8_method_2_code 24 = .ok (.iconst 0, 1)) ∧ (decode prog_8_method_2_code 25 = .ok (.istore_n 2, 1)) ∧ (decode prog_8_method_2_code 26 = .ok (.iload_n 2, 1)) ∧ (decode prog_8_method_2_code 27 = .ok (.aload_n 0, 1)) ∧ (decode prog_8_method_2_code 28 = .ok (.getfield 40, 3)) ∧ (decode prog_8_method_2_code 31 = .ok (.if_icmp .ge 24, 3)) ∧ (decode prog_8_method_2_code 34 = .ok (.aload_n 0, 1)) ∧ (decode prog_8_method_2_code 35 = .ok (.getfield 18, 3)) ∧ (decode prog_8_method_2_code 38 = .ok (.iload_n 2, 1)) ∧ (decode prog_8_method_2_code 39 = .ok (.aload_n 1, 1)) ∧ (decode prog_8_method_2_code 40 = .ok (.getfield 47, 3)) ∧ (decode prog_8_method_2_code 43 = .ok (.iconst 1, 1)) := by
  have h : List.drop 0 prog_8_method_2_code.data.toList = 0x2a :: _ := rfl
  refine ⟨zq_k_n 42 h rfl (zq_o_42 _), ?_⟩
  replace h := zq_nx1 (q := 1) h rfl
  refine ⟨zq_k_n 43 h rfl (zq_o_43 _), ?_⟩
  replace h := zq_nx1 (q := 2) h rfl
  refine ⟨zq_k_u2 180 (fun z => .getfield z) 34 h rfl (zq_o_180 _) (by decide +kernel), ?_⟩
  replace h := zq_nx3 (q := 5) h rfl
  refine ⟨zq_k_u2 181 (fun z => .putfield z) 40 h rfl (zq_o_181 _) (by decide +kernel), ?_⟩
  replace h := zq_nx3 (q := 8) h rfl
  refine ⟨zq_k_n 42 h rfl (zq_o_42 _), ?_⟩
  replace h := zq_nx1 (q := 9) h rfl
  refine ⟨zq_k_u2 180 (fun z => .getfield z) 9 h rfl (zq_o_180 _) (by decide +kernel), ?_⟩
  replace h := zq_nx3 (q := 12) h rfl
  refine ⟨zq_k_n 3 h rfl (zq_o_3 _), ?_⟩
  replace h := zq_nx1 (q := 13) h rfl
  refine ⟨zq_k_u2 184 (fun z => .invokestatic z) 41 h rfl (zq_o_184 _) (by decide +kernel), ?_⟩
  replace h := zq_nx3 (q := 16) h rfl
  refine ⟨zq_k_n 42 h rfl (zq_o_42 _), ?_⟩
  replace h := zq_nx1 (q := 17) h rfl
  refine ⟨zq_k_u2 180 (fun z => .getfield z) 15 h rfl (zq_o_180 _) (by decide +kernel), ?_⟩
  replace h := zq_nx3 (q := 20) h rfl
  refine ⟨zq_k_n 3 h rfl (zq_o_3 _), ?_⟩
  replace h := zq_nx1 (q := 21) h rfl
  refine ⟨zq_k_u2 184 (fun z => .invokestatic z) 41 h rfl (zq_o_184 _) (by decide +kernel), ?_⟩
  replace h := zq_nx3 (q := 24) h rfl
  refine ⟨zq_k_n 3 h rfl (zq_o_3 _), ?_⟩
  replace h := zq_nx1 (q := 25) h rfl
  refine ⟨zq_k_n 61 h rfl (zq_o_61 _), ?_⟩
  replace h := zq_nx1 (q := 26) h rfl
  refine ⟨zq_k_n 28 h rfl (zq_o_28 _), ?_⟩
  replace h := zq_nx1 (q := 27) h rfl
  refine ⟨zq_k_n 42 h rfl (zq_o_42 _), ?_⟩
  replace h := zq_nx1 (q := 28) h rfl
  refine ⟨zq_k_u2 180 (fun z => .getfield z) 40 h rfl (zq_o_180 _) (by decide +kernel), ?_⟩
  replace h := zq_nx3 (q := 31) h rfl
  refine ⟨zq_k_s2 162 (fun z => .if_icmp .ge z) 24 h rfl (zq_o_162 _) (by decide +kernel), ?_⟩
  replace h := zq_nx3 (q := 34) h rfl
  refine ⟨zq_k_n 42 h rfl (zq_o_42 _), ?_⟩
  replace h := zq_nx1 (q := 35) h rfl
  refine ⟨zq_k_u2 180 (fun z => .getfield z) 18 h rfl (zq_o_180 _) (by decide +kernel), ?_⟩
  replace h := zq_nx3 (q := 38) h rfl
  refine ⟨zq_k_n 28 h rfl (zq_o_28 _), ?_⟩
  replace h := zq_nx1 (q := 39) h rfl
  refine ⟨zq_k_n 43 h rfl (zq_o_43 _), ?_⟩
  replace h := zq_nx1 (q := 40) h rfl
  refine ⟨zq_k_u2 180 (fun z => .getfield z) 47 h rfl (zq_o_180 _) (by decide +kernel), ?_⟩
  replace h := zq_nx3 (q := 43) h rfl
  exact zq_k_n 4 h rfl (zq_o_4 _)
set_option maxRecDepth 100000 in
theorem dd_Tables_load_44 : (decode prog_8_method_2_code 44 = .ok (.iload_n 2, 1)) ∧ (decode prog_8_method_2_code 45 = .ok (.invokevirtual 53, 3)) ∧ (decode prog_8_method_2_code 48 = .ok (.iastore, 1)) ∧ (decode prog_8_method_2_code 49 = .ok (.iinc 2 1, 3)) ∧ (decode prog_8_method_2_code 52 = .ok (.goto (-26), 3)) ∧ (decode prog_8_method_2_code 55 = .ok (.iconst 0, 1)) ∧ (decode prog_8_method_2_code 56 = .ok (.istore_n 2, 1)) ∧ (decode prog_8_method_2_code 57 = .ok (.iload_n 2, 1)) ∧ (decode prog_8_method_2_code 58 = .ok (.iconst 3, 1)) ∧ (decode prog_8_method_2_code 59 = .ok (.if_icmp .ge 128, 3)) ∧ (decode prog_8_method_2_code 62 = .ok (.aload_n 1, 1)) ∧ (decode prog_8_method_2_code 63 = .ok (.iload_n 2, 1)) ∧ (decode prog_8_method_2_code 64 = .ok (.invokevirtual 57, 3)) ∧ (decode prog_8_method_2_code 67 = .ok (.istore_n 3, 1)) ∧ (decode prog_8_method_2_code 68 = .ok (.aload_n 0, 1)) ∧ (decode prog_8_method_2_code 69 = .ok (.getfield 21, 3)) ∧ (decode prog_8_method_2_code 72 = .ok (.iload_n 2, 1)) ∧ (decode prog_8_method_2_code 73 = .ok (.iload_n 3, 1)) ∧ (decode prog_8_method_2_code 74 = .ok (.ifCond .eq 15, 3)) ∧ (decode prog_8_method_2_code 77 = .ok (.aload_n 1, 1)) ∧ (decode prog_8_method_2_code 78 = .ok (.getfield 47, 3)) ∧ (decode prog_8_method_2_code 81 = .ok (.iconst 0, 1)) ∧ (decode prog_8_method_2_code 82 = .ok (.iload_n 2, 1)) ∧ (decode prog_8_method_2_code 83 = .ok (.invokevirtual 53, 3)) := by
  have h : List.drop 44 prog_8_method_2_code.data.toList = 0x1c :: _ := rfl
  refine ⟨zq_k_n 28 h rfl (zq_o_28 _), ?_⟩
  replace h := zq_nx1 (q := 45) h rfl
  refine ⟨zq_k_u2 182 (fun z => .invokevirtual z) 53 h rfl (zq_o_182 _) (by decide +kernel), ?_⟩
  replace h := zq_nx3 (q := 48) h rfl
  refine ⟨zq_k_n 79 h rfl (zq_o_79 _), ?_⟩
  replace h := zq_nx1 (q := 49) h rfl
  refine ⟨zq_k_iinc 2 1 h rfl (zq_o_132 _) (by decide +kernel) (by decide +kernel), ?_⟩
  replace h := zq_nx3 (q := 52) h rfl
  refine ⟨zq_k_s2 167 (fun z => .goto z) (-26) h rfl (zq_o_167 _) (by decide +kernel), ?_⟩
  replace h := zq_nx3 (q := 55) h rfl
  refine ⟨zq_k_n 3 h rfl (zq_o_3 _), ?_⟩
  replace h := zq_nx1 (q := 56) h rfl
  refine ⟨zq_k_n 61 h rfl (zq_o_61 _), ?_⟩
  replace h := zq_nx1 (q := 57) h rfl
  refine ⟨zq_k_n 28 h rfl (zq_o_28 _), ?_⟩
  replace h := zq_nx1 (q := 58) h rfl
  refine ⟨zq_k_n 6 h rfl (zq_o_6 _), ?_⟩
  replace h := zq_nx1 (q := 59) h rfl
  refine ⟨zq_k_s2 162 (fun z => .if_icmp .ge z) 128 h rfl (zq_o_162 _) (by decide +kernel), ?_⟩
  replace h := zq_nx3 (q := 62) h rfl
  refine ⟨zq_k_n 43 h rfl (zq_o_43 _), ?_⟩
  replace h := zq_nx1 (q := 63) h rfl
  refine ⟨zq_k_n 28 h rfl (zq_o_28 _), ?_⟩
  replace h := zq_nx1 (q := 64) h rfl
  refine ⟨zq_k_u2 182 (fun z => .invokevirtual z) 57 h rfl (zq_o_182 _) (by decide +kernel), ?_⟩
  replace h := zq_nx3 (q := 67) h rfl
  refine ⟨zq_k_n 62 h rfl (zq_o_62 _), ?_⟩
  replace h := zq_nx1 (q := 68) h rfl
  refine ⟨zq_k_n 42 h rfl (zq_o_42 _), ?_⟩
  replace h := zq_nx1 (q := 69) h rfl
  refine ⟨zq_k_u2 180 (fun z => .getfield z) 21 h rfl (zq_o_180 _) (by decide +kernel), ?_⟩
  replace h := zq_nx3 (q := 72) h rfl
  refine ⟨zq_k_n 28 h rfl (zq_o_28 _), ?_⟩
  replace h := zq_nx1 (q := 73) h rfl
  refine ⟨zq_k_n 29 h rfl (zq_o_29 _), ?_⟩
  replace h := zq_nx1 (q := 74) h rfl
  refine ⟨zq_k_s2 153 (fun z => .ifCond .eq z) 15 h rfl (zq_o_153 _) (by decide +kernel), ?_⟩
  replace h := zq_nx3 (q := 77) h rfl
  refine ⟨zq_k_n 43 h rfl (zq_o_43 _), ?_⟩
  replace h := zq_nx1 (q := 78) h rfl
  refine ⟨zq_k_u2 180 (fun z => .getfield z) 47 h rfl (zq_o_180 _) (by decide +kernel), ?_⟩
  replace h := zq_nx3 (q := 81) h rfl
  refine ⟨zq_k_n 3 h rfl (zq_o_3 _), ?_⟩
  replace h := zq_nx1 (q := 82) h rfl
  refine ⟨zq_k_n 28 h rfl (zq_o_28 _), ?_⟩
  replace h := zq_nx1 (q := 83) h rfl
  exact zq_k_u2 182 (fun z => .invokevirtual z) 53 h rfl (zq_o_182 _) (by decide +kernel)
set_option maxRecDepth 100000 in
theorem dd_Tables_load_86 : (decode prog_8_method_2_code 86 = .ok (.goto 4, 3)) ∧ (decode prog_8_method_2_code 89 = .ok (.iconst (-1), 1)) ∧ (decode prog_8_method_2_code 90 = .ok (.iastore, 1)) ∧ (decode prog_8_method_2_code 91 = .ok (.aload_n 0, 1)) ∧ (decode prog_8_method_2_code 92 = .ok (.getfield 24, 3)) ∧ (decode prog_8_method_2_code 95 = .ok (.iload_n 2, 1)) ∧ (decode prog_8_method_2_code 96 = .ok (.iload_n 3, 1)) ∧ (decode prog_8_method_2_code 97 = .ok (.ifCond .eq 12, 3)) ∧ (decode prog_8_method_2_code 100 = .ok (.aload_n 1, 1)) ∧ (decode prog_8_method_2_code 101 = .ok (.getfield 61, 3)) ∧ (decode prog_8_method_2_code 104 = .ok (.iload_n 2, 1)) ∧ (decode prog_8_method_2_code 105 = .ok (.iaload, 1)) ∧ (decode prog_8_method_2_code 106 = .ok (.goto 4, 3)) ∧ (decode prog_8_method_2_code 109 = .ok (.iconst 0, 1)) ∧ (decode prog_8_method_2_code 110 = .ok (.iastore, 1)) ∧ (decode prog_8_method_2_code 111 = .ok (.iconst 0, 1)) ∧ (decode prog_8_method_2_code 112 = .ok (.istore 4, 2)) ∧ (decode prog_8_method_2_code 114 = .ok (.iload 4, 2)) ∧ (decode prog_8_method_2_code 116 = .ok (.aload_n 0, 1)) ∧ (decode prog_8_method_2_code 117 = .ok (.getfield 40, 3)) ∧ (decode prog_8_method_2_code 120 = .ok (.if_icmp .ge 61, 3)) ∧ (decode prog_8_method_2_code 123 = .ok (.iload_n 3, 1)) ∧ (decode prog_8_method_2_code 124 = .ok (.ifCond .eq 21, 3)) ∧ (decode prog_8_method_2_code 127 = .ok (.aload_n 1, 1)) := by
  have h : List.drop 86 prog_8_method_2_code.data.toList = 0xa7 :: _ := rfl
  refine ⟨zq_k_s2 167 (fun z => .goto z) 4 h rfl (zq_o_167 _) (by decide +kernel), ?_⟩
  replace h := zq_nx3 (q := 89) h rfl
  refine ⟨zq_k_n 2 h rfl (zq_o_2 _), ?_⟩
  replace h := zq_nx1 (q := 90) h rfl
  refine ⟨zq_k_n 79 h rfl (zq_o_79 _), ?_⟩
  replace h := zq_nx1 (q := 91) h rfl
  refine ⟨zq_k_n 42 h rfl (zq_o_42 _), ?_⟩
  replace h := zq_nx1 (q := 92) h rfl
  refine ⟨zq_k_u2 180 (fun z => .getfield z) 24 h rfl (zq_o_180 _) (by decide +kernel), ?_⟩
  replace h := zq_nx3 (q := 95) h rfl
  refine ⟨zq_k_n 28 h rfl (zq_o_28 _), ?_⟩
  replace h := zq_nx1 (q := 96) h rfl
  refine ⟨zq_k_n 29 h rfl (zq_o_29 _), ?_⟩
  replace h := zq_nx1 (q := 97) h rfl
  refine ⟨zq_k_s2 153 (fun z => .ifCond .eq z) 12 h rfl (zq_o_153 _) (by decide +kernel), ?_⟩
  replace h := zq_nx3 (q := 100) h rfl
  refine ⟨zq_k_n 43 h rfl (zq_o_43 _), ?_⟩
  replace h := zq_nx1 (q := 101) h rfl
  refine ⟨zq_k_u2 180 (fun z => .getfield z) 61 h rfl (zq_o_180 _) (by decide +kernel), ?_⟩
  replace h := zq_nx3 (q := 104) h rfl
  refine ⟨zq_k_n 28 h rfl (zq_o_28 _), ?_⟩
  replace h := zq_nx1 (q := 105) h rfl
  refine ⟨zq_k_n 46 h rfl (zq_o_46 _), ?_⟩
  replace h := zq_nx1 (q := 106) h rfl
  refine ⟨zq_k_s2 167 (fun z => .goto z) 4 h rfl (zq_o_167 _) (by decide +kernel), ?_⟩
  replace h := zq_nx3 (q := 109) h rfl
  refine ⟨zq_k_n 3 h rfl (zq_o_3 _), ?_⟩
  replace h := zq_nx1 (q := 110) h rfl
  refine ⟨zq_k_n 79 h rfl (zq_o_79 _), ?_⟩
  replace h := zq_nx1 (q := 111) h rfl
  refine ⟨zq_k_n 3 h rfl (zq_o_3 _), ?_⟩
  replace h := zq_nx1 (q := 112) h rfl
  refine ⟨zq_k_u1 54 (fun z => .istore z) 4 h rfl (zq_o_54 _) (by decide +kernel), ?_⟩
  replace h := zq_nx2 (q := 114) h rfl
  refine ⟨zq_k_u1 21 (fun z => .iload z) 4 h rfl (zq_o_21 _) (by decide +kernel), ?_⟩
  replace h := zq_nx2 (q := 116) h rfl
  refine ⟨zq_k_n 42 h rfl (zq_o_42 _), ?_⟩
  replace h := zq_nx1 (q := 117) h rfl
  refine ⟨zq_k_u2 180 (fun z => .getfield z) 40 h rfl (zq_o_180 _) (by decide +kernel), ?_⟩
  replace h := zq_nx3 (q := 120) h rfl
  refine ⟨zq_k_s2 162 (fun z => .if_icmp .ge z) 61 h rfl (zq_o_162 _) (by decide +kernel), ?_⟩
  replace h := zq_nx3 (q := 123) h rfl
  refine ⟨zq_k_n 29 h rfl (zq_o_29 _), ?_⟩
  replace h := zq_nx1 (q := 124) h rfl
  refine ⟨zq_k_s2 153 (fun z => .ifCond .eq z) 21 h rfl (zq_o_153 _) (by decide +kernel), ?_⟩
  replace h := zq_nx3 (q := 127) h rfl
  exact zq_k_n 43 h rfl (zq_o_43 _)
set_option maxRecDepth 100000 in
theorem dd_Tables_load_128 : (decode prog_8_method_2_code 128 = .ok (.getfield 62, 3)) ∧ (decode prog_8_method_2_code 131 = .ok (.iload_n 2, 1)) ∧ (decode prog_8_method_2_code 132 = .ok (.iaload, 1)) ∧ (decode prog_8_method_2_code 133 = .ok (.iload 4, 2)) ∧ (decode prog_8_method_2_code 135 = .ok (.invokestatic 65, 3)) ∧ (decode prog_8_method_2_code 138 = .ok (.ifCond .ne 7, 3)) ∧ (decode prog_8_method_2_code 141 = .ok (.iconst 1, 1)) ∧ (decode prog_8_method_2_code 142 = .ok (.goto 4, 3)) ∧ (decode prog_8_method_2_code 145 = .ok (.iconst 0, 1)) ∧ (decode prog_8_method_2_code 146 = .ok (.istore 5, 2)) ∧ (decode prog_8_method_2_code 148 = .ok (.aload_n 0, 1)) ∧ (decode prog_8_method_2_code 149 = .ok (.getfield 15, 3)) ∧ (decode prog_8_method_2_code 152 = .ok (.iload_n 2, 1)) ∧ (decode prog_8_method_2_code 153 = .ok (.iconst 5, 1)) ∧ (decode prog_8_method_2_code 154 = .ok (.imul, 1)) ∧ (decode prog_8_method_2_code 155 = .ok (.iload 4, 2)) ∧ (decode prog_8_method_2_code 157 = .ok (.iadd, 1)) ∧ (decode prog_8_method_2_code 158 = .ok (.iload 5, 2)) ∧ (decode prog_8_method_2_code 160 = .ok (.ifCond .eq 13, 3)) ∧ (decode prog_8_method_2_code 163 = .ok (.aload_n 1, 1)) ∧ (decode prog_8_method_2_code 164 = .ok (.getfield 69, 3)) ∧ (decode prog_8_method_2_code 167 = .ok (.iload 4, 2)) ∧ (decode prog_8_method_2_code 169 = .ok (.iaload, 1)) ∧ (decode prog_8_method_2_code 170 = .ok (.goto 4, 3)) := by
  have h : List.drop 128 prog_8_method_2_code.data.toList = 0xb4 :: _ := rfl
  refine ⟨zq_k_u2 180 (fun z => .getfield z) 62 h rfl (zq_o_180 _) (by decide +kernel), ?_⟩
  replace h := zq_nx3 (q := 131) h rfl
  refine ⟨zq_k_n 28 h rfl (zq_o_28 _), ?_⟩
  replace h := zq_nx1 (q := 132) h rfl
  refine ⟨zq_k_n 46 h rfl (zq_o_46 _), ?_⟩
  replace h := zq_nx1 (q := 133) h rfl
  refine ⟨zq_k_u1 21 (fun z => .iload z) 4 h rfl (zq_o_21 _) (by decide +kernel), ?_⟩
  replace h := zq_nx2 (q := 135) h rfl
  refine ⟨zq_k_u2 184 (fun z => .invokestatic z) 65 h rfl (zq_o_184 _) (by decide +kernel), ?_⟩
  replace h := zq_nx3 (q := 138) h rfl
  refine ⟨zq_k_s2 154 (fun z => .ifCond .ne z) 7 h rfl (zq_o_154 _) (by decide +kernel), ?_⟩
  replace h := zq_nx3 (q := 141) h rfl
  refine ⟨zq_k_n 4 h rfl (zq_o_4 _), ?_⟩
  replace h := zq_nx1 (q := 142) h rfl
  refine ⟨zq_k_s2 167 (fun z => .goto z) 4 h rfl (zq_o_167 _) (by decide +kernel), ?_⟩
  replace h := zq_nx3 (q := 145) h rfl
  refine ⟨zq_k_n 3 h rfl (zq_o_3 _), ?_⟩
  replace h := zq_nx1 (q := 146) h rfl
  refine ⟨zq_k_u1 54 (fun z => .istore z) 5 h rfl (zq_o_54 _) (by decide +kernel), ?_⟩
  replace h := zq_nx2 (q := 148) h rfl
  refine ⟨zq_k_n 42 h rfl (zq_o_42 _), ?_⟩
  replace h := zq_nx1 (q := 149) h rfl
  refine ⟨zq_k_u2 180 (fun z => .getfield z) 15 h rfl (zq_o_180 _) (by decide +kernel), ?_⟩
  replace h := zq_nx3 (q := 152) h rfl
  refine ⟨zq_k_n 28 h rfl (zq_o_28 _), ?_⟩
  replace h := zq_nx1 (q := 153) h rfl
  refine ⟨zq_k_n 8 h rfl (zq_o_8 _), ?_⟩
  replace h := zq_nx1 (q := 154) h rfl
  refine ⟨zq_k_n 104 h rfl (zq_o_104 _), ?_⟩
  replace h := zq_nx1 (q := 155) h rfl
  refine ⟨zq_k_u1 21 (fun z => .iload z) 4 h rfl (zq_o_21 _) (by decide +kernel), ?_⟩
  replace h := zq_nx2 (q := 157) h rfl
  refine ⟨zq_k_n 96 h rfl (zq_o_96 _), ?_⟩
  replace h := zq_nx1 (q := 158) h rfl
  refine ⟨zq_k_u1 21 (fun z => .iload z) 5 h rfl (zq_o_21 _) (by decide +kernel), ?_⟩
  replace h := zq_nx2 (q := 160) h rfl
  refine ⟨zq_k_s2 153 (fun z => .ifCond .eq z) 13 h rfl (zq_o_153 _) (by decide +kernel), ?_⟩
  replace h := zq_nx3 (q := 163) h rfl
  refine ⟨zq_k_n 43 h rfl (zq_o_43 _), ?_⟩
  replace h := zq_nx1 (q := 164) h rfl
  refine ⟨zq_k_u2 180 (fun z => .getfield z) 69 h rfl (zq_o_180 _) (by decide +kernel), ?_⟩
  replace h := zq_nx3 (q := 167) h rfl
  refine ⟨zq_k_u1 21 (fun z => .iload z) 4 h rfl (zq_o_21 _) (by decide +kernel), ?_⟩
  replace h := zq_nx2 (q := 169) h rfl
  refine ⟨zq_k_n 46 h rfl (zq_o_46 _), ?_⟩
  replace h := zq_nx1 (q := 170) h rfl
  exact zq_k_s2 167 (fun z => .goto z) 4 h rfl (zq_o_167 _) (by decide +kernel)
set_option maxRecDepth 100000 in
theorem dd_Tables_load_173 : (decode prog_8_method_2_code 173 = .ok (.iconst 0, 1)) ∧ (decode prog_8_method_2_code 174 = .ok (.iastore, 1)) ∧ (decode prog_8_method_2_code 175 = .ok (.iinc 4 1, 3)) ∧ (decode prog_8_method_2_code 178 = .ok (.goto (-64), 3)) ∧ (decode prog_8_method_2_code 181 = .ok (.iinc 2 1, 3)) ∧ (decode prog_8_method_2_code 184 = .ok (.goto (-127), 3)) ∧ (decode prog_8_method_2_code 187 = .ok (.return_, 1)) := by
  have h : List.drop 173 prog_8_method_2_code.data.toList = 0x03 :: _ := rfl
  refine ⟨zq_k_n 3 h rfl (zq_o_3 _), ?_⟩
  replace h := zq_nx1 (q := 174) h rfl
  refine ⟨zq_k_n 79 h rfl (zq_o_79 _), ?_⟩
  replace h := zq_nx1 (q := 175) h rfl
  refine ⟨zq_k_iinc 4 1 h rfl (zq_o_132 _) (by decide +kernel) (by decide +kernel), ?_⟩
  replace h := zq_nx3 (q := 178) h rfl
  refine ⟨zq_k_s2 167 (fun z => .goto z) (-64) h rfl (zq_o_167 _) (by decide +kernel), ?_⟩
  replace h := zq_nx3 (q := 181) h rfl
  refine ⟨zq_k_iinc 2 1 h rfl (zq_o_132 _) (by decide +kernel) (by decide +kernel), ?_⟩
  replace h := zq_nx3 (q := 184) h rfl
  refine ⟨zq_k_s2 167 (fun z => .goto z) (-127) h rfl (zq_o_167 _) (by decide +kernel), ?_⟩
  replace h := zq_nx3 (q := 187) h rfl
  exact zq_k_n 177 h rfl (zq_o_177 _)
def f_Tables_load_174 (rec57 : Nat → Nat → Int32 → mH → Option mH) (rec114 : Nat → Nat → Int32 → Int32 → Int32 → mH → Option mH) (b0 : Nat) (b1 : Nat) (b2 : Int32) (b3 : Int32) (b4 : Int32) (s0 : Nat) (s1 : Int32) (s2 : Int32) (h : mH) : Option mH :=
  bd1 (sI h 0 s0 s1 s2) fun h73 =>
  rec114 b0 b1 b2 b3 (b4 + (1 : Int32)) h73
set_option maxRecDepth 20000 in
theorem t_Tables_load_174 {sc : Nat × (Nat → Int32)} (rec57 : Nat → Nat → Int32 → mH → Option mH) (hrec57 : ∀ (b0 : Nat) (b1 : Nat) (b2 : Int32) (h : mH) (h' : mH), rec57 b0 b1 b2 h = some h' → G sc y_Tables_load prog_8_method_2_code 6 none 1 24 57 [(0, .ref b0), (1, .ref b1), (2, .int b2)] [] h none h') (rec114 : Nat → Nat → Int32 → Int32 → Int32 → mH → Option mH) (hrec114 : ∀ (b0 : Nat) (b1 : Nat) (b2 : Int32) (b3 : Int32) (b4 : Int32) (h : mH) (h' : mH), rec114 b0 b1 b2 b3 b4 h = some h' → G sc y_Tables_load prog_8_method_2_code 6 none 1 24 114 [(0, .ref b0), (1, .ref b1), (2, .int b2), (3, .int b3), (4, .int b4)] [] h none h') (b0 : Nat) (b1 : Nat) (b2 : Int32) (b3 : Int32) (b4 : Int32) (s0 : Nat) (s1 : Int32) (s2 : Int32) (h : mH) (h' : mH) (hf : f_Tables_load_174 rec57 rec114 b0 b1 b2 b3 b4 s0 s1 s2 h = some h') : G sc y_Tables_load prog_8_method_2_code 6 none 1 24 174 [(0, .ref b0), (1, .ref b1), (2, .int b2), (3, .int b3), (4, .int b4)] [.int s2, .int s1, .ref s0] h none h' := by
  unfold f_Tables_load_174 at hf
  obtain ⟨h73, e74, hf⟩ := bd1_e hf
  refine g_iast (pc := 174) dd_Tables_load_173.2.1 e74 ?_
  refine g_iinc (pc := 175) 4 (b4 + (1 : Int32)) [(4, .int (b4 + (1 : Int32))), (0, .ref b0), (1, .ref b1), (2, .int b2), (3, .int b3)] dd_Tables_load_173.2.2.1 rfl rfl (Nat.le_of_ble_eq_true rfl) rfl ?_
  refine g_goto (pc := 178) 114 dd_Tables_load_173.2.2.2.1 (by decide) ?_
  refine g_lv [1, 2, 3, 4, 0] rfl ?_
  exact hrec114 _ _ _ _ _ _ _  hf
def f_Tables_load_146 (rec57 : Nat → Nat → Int32 → mH → Option mH) (rec114 : Nat → Nat → Int32 → Int32 → Int32 → mH → Option mH) (b0 : Nat) (b1 : Nat) (b2 : Int32) (b3 : Int32) (b4 : Int32) (s0 : Int32) (h : mH) : Option mH :=
  bd1 (gR h b0 7 2) fun x66 =>
  if s0 = 0 then
    f_Tables_load_174 rec57 rec114 b0 b1 b2 b3 b4 x66 ((b2 * (5 : Int32)) + b4) (0 : Int32) h
  else
    bd1 (gR h b1 4 7) fun x68 =>
    bd1 (aI h 0 x68 b4) fun x70 =>
    f_Tables_load_174 rec57 rec114 b0 b1 b2 b3 b4 x66 ((b2 * (5 : Int32)) + b4) x70 h
set_option maxRecDepth 20000 in
theorem t_Tables_load_146 {sc : Nat × (Nat → Int32)} (rec57 : Nat → Nat → Int32 → mH → Option mH) (hrec57 : ∀ (b0 : Nat) (b1 : Nat) (b2 : Int32) (h : mH) (h' : mH), rec57 b0 b1 b2 h = some h' → G sc y_Tables_load prog_8_method_2_code 6 none 1 24 57 [(0, .ref b0), (1, .ref b1), (2, .int b2)] [] h none h') (rec114 : Nat → Nat → Int32 → Int32 → Int32 → mH → Option mH) (hrec114 : ∀ (b0 : Nat) (b1 : Nat) (b2 : Int32) (b3 : Int32) (b4 : Int32) (h : mH) (h' : mH), rec114 b0 b1 b2 b3 b4 h = some h' → G sc y_Tables_load prog_8_method_2_code 6 none 1 24 114 [(0, .ref b0), (1, .ref b1), (2, .int b2), (3, .int b3), (4, .int b4)] [] h none h') (b0 : Nat) (b1 : Nat) (b2 : Int32) (b3 : Int32) (b4 : Int32) (s0 : Int32) (h : mH) (h' : mH) (hf : f_Tables_load_146 rec57 rec114 b0 b1 b2 b3 b4 s0 h = some h') : G sc y_Tables_load prog_8_method_2_code 6 none 1 24 146 [(0, .ref b0), (1, .ref b1), (2, .int b2), (3, .int b3), (4, .int b4)] [.int s0] h none h' := by
  unfold f_Tables_load_146 at hf
  refine g_istore (pc := 146) [(5, .int s0), (0, .ref b0), (1, .ref b1), (2, .int b2), (3, .int b3), (4, .int b4)] dd_Tables_load_128.2.2.2.2.2.2.2.2.2.1 (Nat.le_of_ble_eq_true rfl) rfl ?_
  refine g_aload_n (pc := 148) 1 dd_Tables_load_128.2.2.2.2.2.2.2.2.2.2.1 rfl rfl ?_
  obtain ⟨x66, e67, hf⟩ := bd1_e hf
  refine g_get (pc := 149) (ci := 7) (kk := 2) dd_Tables_load_128.2.2.2.2.2.2.2.2.2.2.2.1 rfl in_Tables (by decide) wd_238 (gR_spec e67) ?_
  refine g_iload_n (pc := 152) 3 dd_Tables_load_128.2.2.2.2.2.2.2.2.2.2.2.2.1 rfl rfl ?_
  refine g_iconst (pc := 153) (5 : Int32) dd_Tables_load_128.2.2.2.2.2.2.2.2.2.2.2.2.2.1 (by decide) ?_
  refine g_imul (pc := 154) dd_Tables_load_128.2.2.2.2.2.2.2.2.2.2.2.2.2.2.1 ?_
  refine g_iload (pc := 155) 5 dd_Tables_load_128.2.2.2.2.2.2.2.2.2.2.2.2.2.2.2.1 rfl ?_
  refine g_iadd (pc := 157) dd_Tables_load_128.2.2.2.2.2.2.2.2.2.2.2.2.2.2.2.2.1 ?_
  refine g_iload (pc := 158) 0 dd_Tables_load_128.2.2.2.2.2.2.2.2.2.2.2.2.2.2.2.2.2.1 rfl ?_
  refine g_ifeq (pc := 160) 173 dd_Tables_load_128.2.2.2.2.2.2.2.2.2.2.2.2.2.2.2.2.2.2.1 (by decide) (fun c72 => ?_) (fun c72 => ?_)
  · replace hf := (if_pos c72).symm.trans hf
    refine g_iconst (pc := 173) (0 : Int32) dd_Tables_load_173.1 (by decide) ?_
    refine g_lv [1, 2, 3, 4, 5] rfl ?_
    exact t_Tables_load_174 rec57 hrec57 rec114 hrec114 _ _ _ _ _ _ _ _ _ _  hf
  · replace hf := (if_neg c72).symm.trans hf
    refine g_aload_n (pc := 163) 2 dd_Tables_load_128.2.2.2.2.2.2.2.2.2.2.2.2.2.2.2.2.2.2.2.1 rfl rfl ?_
    obtain ⟨x68, e69, hf⟩ := bd1_e hf
    refine g_get (pc := 164) (ci := 4) (kk := 7) dd_Tables_load_128.2.2.2.2.2.2.2.2.2.2.2.2.2.2.2.2.2.2.2.2.1 rfl in_Realm (by decide) wd_117 (gR_spec e69) ?_
    refine g_iload (pc := 167) 5 dd_Tables_load_128.2.2.2.2.2.2.2.2.2.2.2.2.2.2.2.2.2.2.2.2.2.1 rfl ?_
    obtain ⟨x70, e71, hf⟩ := bd1_e hf
    refine g_iald (pc := 169) dd_Tables_load_128.2.2.2.2.2.2.2.2.2.2.2.2.2.2.2.2.2.2.2.2.2.2.1 e71 ?_
    refine g_goto (pc := 170) 174 dd_Tables_load_128.2.2.2.2.2.2.2.2.2.2.2.2.2.2.2.2.2.2.2.2.2.2.2 (by decide) ?_
    refine g_lv [1, 2, 3, 4, 5] rfl ?_
    exact t_Tables_load_174 rec57 hrec57 rec114 hrec114 _ _ _ _ _ _ _ _ _ _  hf
def f_Tables_load_145 (rec57 : Nat → Nat → Int32 → mH → Option mH) (rec114 : Nat → Nat → Int32 → Int32 → Int32 → mH → Option mH) (b0 : Nat) (b1 : Nat) (b2 : Int32) (b3 : Int32) (b4 : Int32) (h : mH) : Option mH :=
  f_Tables_load_146 rec57 rec114 b0 b1 b2 b3 b4 (0 : Int32) h
set_option maxRecDepth 20000 in
theorem t_Tables_load_145 {sc : Nat × (Nat → Int32)} (rec57 : Nat → Nat → Int32 → mH → Option mH) (hrec57 : ∀ (b0 : Nat) (b1 : Nat) (b2 : Int32) (h : mH) (h' : mH), rec57 b0 b1 b2 h = some h' → G sc y_Tables_load prog_8_method_2_code 6 none 1 24 57 [(0, .ref b0), (1, .ref b1), (2, .int b2)] [] h none h') (rec114 : Nat → Nat → Int32 → Int32 → Int32 → mH → Option mH) (hrec114 : ∀ (b0 : Nat) (b1 : Nat) (b2 : Int32) (b3 : Int32) (b4 : Int32) (h : mH) (h' : mH), rec114 b0 b1 b2 b3 b4 h = some h' → G sc y_Tables_load prog_8_method_2_code 6 none 1 24 114 [(0, .ref b0), (1, .ref b1), (2, .int b2), (3, .int b3), (4, .int b4)] [] h none h') (b0 : Nat) (b1 : Nat) (b2 : Int32) (b3 : Int32) (b4 : Int32) (h : mH) (h' : mH) (hf : f_Tables_load_145 rec57 rec114 b0 b1 b2 b3 b4 h = some h') : G sc y_Tables_load prog_8_method_2_code 6 none 1 24 145 [(0, .ref b0), (1, .ref b1), (2, .int b2), (3, .int b3), (4, .int b4)] [] h none h' := by
  unfold f_Tables_load_145 at hf
  refine g_iconst (pc := 145) (0 : Int32) dd_Tables_load_128.2.2.2.2.2.2.2.2.1 (by decide) ?_
  refine g_lv [0, 1, 2, 3, 4] rfl ?_
  exact t_Tables_load_146 rec57 hrec57 rec114 hrec114 _ _ _ _ _ _ _ _  hf
def f_Tables_load_114b (rec57 : Nat → Nat → Int32 → mH → Option mH) (rec114 : Nat → Nat → Int32 → Int32 → Int32 → mH → Option mH) (b0 : Nat) (b1 : Nat) (b2 : Int32) (b3 : Int32) (b4 : Int32) (h : mH) : Option mH :=
  bd1 (gI h b0 7 0) fun x54 =>
  if x54 ≤ b4 then
    rec57 b0 b1 (b2 + (1 : Int32)) h
  else
    if b3 = 0 then
      f_Tables_load_145 rec57 rec114 b0 b1 b2 b3 b4 h
    else
      bd1 (gR h b1 4 15) fun x56 =>
      bd1 (aI h 0 x56 b2) fun x58 =>
      bd2 (f_Q_hasBit x58 b4 h) fun x62 h60 =>
      if x62 = 0 then
        f_Tables_load_146 rec57 rec114 b0 b1 b2 b3 b4 (1 : Int32) h60
      else
        f_Tables_load_145 rec57 rec114 b0 b1 b2 b3 b4 h60
set_option maxRecDepth 20000 in
theorem t_Tables_load_114b {sc : Nat × (Nat → Int32)} (rec57 : Nat → Nat → Int32 → mH → Option mH) (hrec57 : ∀ (b0 : Nat) (b1 : Nat) (b2 : Int32) (h : mH) (h' : mH), rec57 b0 b1 b2 h = some h' → G sc y_Tables_load prog_8_method_2_code 6 none 1 24 57 [(0, .ref b0), (1, .ref b1), (2, .int b2)] [] h none h') (rec114 : Nat → Nat → Int32 → Int32 → Int32 → mH → Option mH) (hrec114 : ∀ (b0 : Nat) (b1 : Nat) (b2 : Int32) (b3 : Int32) (b4 : Int32) (h : mH) (h' : mH), rec114 b0 b1 b2 b3 b4 h = some h' → G sc y_Tables_load prog_8_method_2_code 6 none 1 24 114 [(0, .ref b0), (1, .ref b1), (2, .int b2), (3, .int b3), (4, .int b4)] [] h none h') (b0 : Nat) (b1 : Nat) (b2 : Int32) (b3 : Int32) (b4 : Int32) (h : mH) (h' : mH) (hf : f_Tables_load_114b rec57 rec114 b0 b1 b2 b3 b4 h = some h') : G sc y_Tables_load prog_8_method_2_code 6 none 1 24 114 [(0, .ref b0), (1, .ref b1), (2, .int b2), (3, .int b3), (4, .int b4)] [] h none h' := by
  unfold f_Tables_load_114b at hf
  refine g_iload (pc := 114) 4 dd_Tables_load_86.2.2.2.2.2.2.2.2.2.2.2.2.2.2.2.2.2.1 rfl ?_
  refine g_aload_n (pc := 116) 0 dd_Tables_load_86.2.2.2.2.2.2.2.2.2.2.2.2.2.2.2.2.2.2.1 rfl rfl ?_
  obtain ⟨x54, e55, hf⟩ := bd1_e hf
  refine g_get (pc := 117) (ci := 7) (kk := 0) dd_Tables_load_86.2.2.2.2.2.2.2.2.2.2.2.2.2.2.2.2.2.2.2.1 rfl in_Tables (by decide) wd_236 (gI_spec e55) ?_
  refine g_icmpge (pc := 120) 181 dd_Tables_load_86.2.2.2.2.2.2.2.2.2.2.2.2.2.2.2.2.2.2.2.2.1 (by decide) (fun c65 => ?_) (fun c65 => ?_)
  · replace hf := (if_pos c65).symm.trans hf
    refine g_iinc (pc := 181) 2 (b2 + (1 : Int32)) [(2, .int (b2 + (1 : Int32))), (0, .ref b0), (1, .ref b1), (3, .int b3), (4, .int b4)] dd_Tables_load_173.2.2.2.2.1 rfl rfl (Nat.le_of_ble_eq_true rfl) rfl ?_
    refine g_goto (pc := 184) 57 dd_Tables_load_173.2.2.2.2.2.1 (by decide) ?_
    refine g_lv [1, 2, 0] rfl ?_
    exact hrec57 _ _ _ _ _  hf
  · replace hf := (if_neg c65).symm.trans hf
    refine g_iload_n (pc := 123) 3 dd_Tables_load_86.2.2.2.2.2.2.2.2.2.2.2.2.2.2.2.2.2.2.2.2.2.1 rfl rfl ?_
    refine g_ifeq (pc := 124) 145 dd_Tables_load_86.2.2.2.2.2.2.2.2.2.2.2.2.2.2.2.2.2.2.2.2.2.2.1 (by decide) (fun c64 => ?_) (fun c64 => ?_)
    · replace hf := (if_pos c64).symm.trans hf
      refine g_lv [0, 1, 2, 3, 4] rfl ?_
      exact t_Tables_load_145 rec57 hrec57 rec114 hrec114 _ _ _ _ _ _ _  hf
    · replace hf := (if_neg c64).symm.trans hf
      refine g_aload_n (pc := 127) 1 dd_Tables_load_86.2.2.2.2.2.2.2.2.2.2.2.2.2.2.2.2.2.2.2.2.2.2.2 rfl rfl ?_
      obtain ⟨x56, e57, hf⟩ := bd1_e hf
      refine g_get (pc := 128) (ci := 4) (kk := 15) dd_Tables_load_128.1 rfl in_Realm (by decide) wd_146 (gR_spec e57) ?_
      refine g_iload_n (pc := 131) 2 dd_Tables_load_128.2.1 rfl rfl ?_
      obtain ⟨x58, e59, hf⟩ := bd1_e hf
      refine g_iald (pc := 132) dd_Tables_load_128.2.2.1 e59 ?_
      refine g_iload (pc := 133) 4 dd_Tables_load_128.2.2.2.1 rfl ?_
      obtain ⟨x62, h60, e61, hf⟩ := bd2_e hf
      refine g_callSN (pc := 135) "QuotaLaws" [.int x58, .int b4] (site_of si_Q_hasBit (by decide) (by decide)) wd_794 wd_469 dd_Tables_load_128.2.2.2.2.1 (Nat.le_of_ble_eq_true rfl) (fun z => absurd z si_na_Q_hasBit) (fun z => absurd z si_na_Q_hasBit) (fun z => absurd z si_na_Q_hasBit) (c_Q_hasBit e61) rfl ?_
      refine g_st [.int x62] rfl ?_
      refine g_ifne (pc := 138) 145 dd_Tables_load_128.2.2.2.2.2.1 (by decide) (fun c63 => ?_) (fun c63 => ?_)
      · replace hf := (if_neg c63).symm.trans hf
        refine g_lv [0, 1, 2, 3, 4] rfl ?_
        exact t_Tables_load_145 rec57 hrec57 rec114 hrec114 _ _ _ _ _ _ _  hf
      · replace hf := (if_pos c63).symm.trans hf
        refine g_iconst (pc := 141) (1 : Int32) dd_Tables_load_128.2.2.2.2.2.2.1 (by decide) ?_
        refine g_goto (pc := 142) 146 dd_Tables_load_128.2.2.2.2.2.2.2.1 (by decide) ?_
        refine g_lv [0, 1, 2, 3, 4] rfl ?_
        exact t_Tables_load_146 rec57 hrec57 rec114 hrec114 _ _ _ _ _ _ _ _  hf
def f_Tables_load_114 (rec57 : Nat → Nat → Int32 → mH → Option mH) : Nat → Nat → Nat → Int32 → Int32 → Int32 → mH → Option mH
  | 0 => fun _ _ _ _ _ _ => none
  | n + 1 => f_Tables_load_114b rec57 (f_Tables_load_114 rec57 n)
theorem t_Tables_load_114 {sc : Nat × (Nat → Int32)} (rec57 : Nat → Nat → Int32 → mH → Option mH) (hrec57 : ∀ (b0 : Nat) (b1 : Nat) (b2 : Int32) (h : mH) (h' : mH), rec57 b0 b1 b2 h = some h' → G sc y_Tables_load prog_8_method_2_code 6 none 1 24 57 [(0, .ref b0), (1, .ref b1), (2, .int b2)] [] h none h') : ∀ (n : Nat) (b0 : Nat) (b1 : Nat) (b2 : Int32) (b3 : Int32) (b4 : Int32) (h : mH) (h' : mH) (hf : f_Tables_load_114 rec57 n b0 b1 b2 b3 b4 h = some h'), G sc y_Tables_load prog_8_method_2_code 6 none 1 24 114 [(0, .ref b0), (1, .ref b1), (2, .int b2), (3, .int b3), (4, .int b4)] [] h none h'
  | 0, _, _, _, _, _, _, _, hf => by cases hf
  | n + 1, _, _, _, _, _, _, _, hf => t_Tables_load_114b rec57 hrec57 (f_Tables_load_114 rec57 n) (t_Tables_load_114 rec57 hrec57 n) _ _ _ _ _ _ _ hf
def f_Tables_load_110 (rec57 : Nat → Nat → Int32 → mH → Option mH) (b0 : Nat) (b1 : Nat) (b2 : Int32) (b3 : Int32) (s0 : Nat) (s1 : Int32) (s2 : Int32) (h : mH) : Option mH :=
  bd1 (sI h 0 s0 s1 s2) fun h52 =>
  f_Tables_load_114 rec57 FU b0 b1 b2 b3 (0 : Int32) h52
set_option maxRecDepth 20000 in
theorem t_Tables_load_110 {sc : Nat × (Nat → Int32)} (rec57 : Nat → Nat → Int32 → mH → Option mH) (hrec57 : ∀ (b0 : Nat) (b1 : Nat) (b2 : Int32) (h : mH) (h' : mH), rec57 b0 b1 b2 h = some h' → G sc y_Tables_load prog_8_method_2_code 6 none 1 24 57 [(0, .ref b0), (1, .ref b1), (2, .int b2)] [] h none h') (b0 : Nat) (b1 : Nat) (b2 : Int32) (b3 : Int32) (s0 : Nat) (s1 : Int32) (s2 : Int32) (h : mH) (h' : mH) (hf : f_Tables_load_110 rec57 b0 b1 b2 b3 s0 s1 s2 h = some h') : G sc y_Tables_load prog_8_method_2_code 6 none 1 24 110 [(0, .ref b0), (1, .ref b1), (2, .int b2), (3, .int b3)] [.int s2, .int s1, .ref s0] h none h' := by
  unfold f_Tables_load_110 at hf
  obtain ⟨h52, e53, hf⟩ := bd1_e hf
  refine g_iast (pc := 110) dd_Tables_load_86.2.2.2.2.2.2.2.2.2.2.2.2.2.2.1 e53 ?_
  refine g_iconst (pc := 111) (0 : Int32) dd_Tables_load_86.2.2.2.2.2.2.2.2.2.2.2.2.2.2.2.1 (by decide) ?_
  refine g_istore (pc := 112) [(4, .int (0 : Int32)), (0, .ref b0), (1, .ref b1), (2, .int b2), (3, .int b3)] dd_Tables_load_86.2.2.2.2.2.2.2.2.2.2.2.2.2.2.2.2.1 (Nat.le_of_ble_eq_true rfl) rfl ?_
  refine g_lv [1, 2, 3, 4, 0] rfl ?_
  exact t_Tables_load_114 rec57 hrec57 FU _ _ _ _ _ _ _  hf
def f_Tables_load_90 (rec57 : Nat → Nat → Int32 → mH → Option mH) (b0 : Nat) (b1 : Nat) (b2 : Int32) (b3 : Int32) (s0 : Nat) (s1 : Int32) (s2 : Int32) (h : mH) : Option mH :=
  bd1 (sI h 0 s0 s1 s2) fun h43 =>
  bd1 (gR h43 b0 7 5) fun x45 =>
  if b3 = 0 then
    f_Tables_load_110 rec57 b0 b1 b2 b3 x45 b2 (0 : Int32) h43
  else
    bd1 (gR h43 b1 4 11) fun x47 =>
    bd1 (aI h43 0 x47 b2) fun x49 =>
    f_Tables_load_110 rec57 b0 b1 b2 b3 x45 b2 x49 h43
set_option maxRecDepth 20000 in
theorem t_Tables_load_90 {sc : Nat × (Nat → Int32)} (rec57 : Nat → Nat → Int32 → mH → Option mH) (hrec57 : ∀ (b0 : Nat) (b1 : Nat) (b2 : Int32) (h : mH) (h' : mH), rec57 b0 b1 b2 h = some h' → G sc y_Tables_load prog_8_method_2_code 6 none 1 24 57 [(0, .ref b0), (1, .ref b1), (2, .int b2)] [] h none h') (b0 : Nat) (b1 : Nat) (b2 : Int32) (b3 : Int32) (s0 : Nat) (s1 : Int32) (s2 : Int32) (h : mH) (h' : mH) (hf : f_Tables_load_90 rec57 b0 b1 b2 b3 s0 s1 s2 h = some h') : G sc y_Tables_load prog_8_method_2_code 6 none 1 24 90 [(0, .ref b0), (1, .ref b1), (2, .int b2), (3, .int b3)] [.int s2, .int s1, .ref s0] h none h' := by
  unfold f_Tables_load_90 at hf
  obtain ⟨h43, e44, hf⟩ := bd1_e hf
  refine g_iast (pc := 90) dd_Tables_load_86.2.2.1 e44 ?_
  refine g_aload_n (pc := 91) 0 dd_Tables_load_86.2.2.2.1 rfl rfl ?_
  obtain ⟨x45, e46, hf⟩ := bd1_e hf
  refine g_get (pc := 92) (ci := 7) (kk := 5) dd_Tables_load_86.2.2.2.2.1 rfl in_Tables (by decide) wd_241 (gR_spec e46) ?_
  refine g_iload_n (pc := 95) 2 dd_Tables_load_86.2.2.2.2.2.1 rfl rfl ?_
  refine g_iload_n (pc := 96) 3 dd_Tables_load_86.2.2.2.2.2.2.1 rfl rfl ?_
  refine g_ifeq (pc := 97) 109 dd_Tables_load_86.2.2.2.2.2.2.2.1 (by decide) (fun c51 => ?_) (fun c51 => ?_)
  · replace hf := (if_pos c51).symm.trans hf
    refine g_iconst (pc := 109) (0 : Int32) dd_Tables_load_86.2.2.2.2.2.2.2.2.2.2.2.2.2.1 (by decide) ?_
    refine g_lv [0, 1, 2, 3] rfl ?_
    exact t_Tables_load_110 rec57 hrec57 _ _ _ _ _ _ _ _ _  hf
  · replace hf := (if_neg c51).symm.trans hf
    refine g_aload_n (pc := 100) 1 dd_Tables_load_86.2.2.2.2.2.2.2.2.1 rfl rfl ?_
    obtain ⟨x47, e48, hf⟩ := bd1_e hf
    refine g_get (pc := 101) (ci := 4) (kk := 11) dd_Tables_load_86.2.2.2.2.2.2.2.2.2.1 rfl in_Realm (by decide) wd_131 (gR_spec e48) ?_
    refine g_iload_n (pc := 104) 2 dd_Tables_load_86.2.2.2.2.2.2.2.2.2.2.1 rfl rfl ?_
    obtain ⟨x49, e50, hf⟩ := bd1_e hf
    refine g_iald (pc := 105) dd_Tables_load_86.2.2.2.2.2.2.2.2.2.2.2.1 e50 ?_
    refine g_goto (pc := 106) 110 dd_Tables_load_86.2.2.2.2.2.2.2.2.2.2.2.2.1 (by decide) ?_
    refine g_lv [0, 1, 2, 3] rfl ?_
    exact t_Tables_load_110 rec57 hrec57 _ _ _ _ _ _ _ _ _  hf
def f_Tables_load_57b (rec57 : Nat → Nat → Int32 → mH → Option mH) (b0 : Nat) (b1 : Nat) (b2 : Int32) (h : mH) : Option mH :=
  if (3 : Int32) ≤ b2 then
    some h
  else
    bd1 (kC h b1 4) fun _ =>
    bd2 (f_Realm_hasOne b1 b2 h) fun x31 h29 =>
    bd1 (gR h29 b0 7 4) fun x32 =>
    if x31 = 0 then
      f_Tables_load_90 rec57 b0 b1 b2 x31 x32 b2 ((-1) : Int32) h29
    else
      bd1 (gR h29 b1 4 18) fun x34 =>
      bd1 (kC h29 x34 6) fun _ =>
      bd2 (f_Sightings_sumDue x34 (0 : Int32) b2 h29) fun x40 h38 =>
      f_Tables_load_90 rec57 b0 b1 b2 x31 x32 b2 x40 h38
set_option maxRecDepth 20000 in
theorem t_Tables_load_57b {sc : Nat × (Nat → Int32)} (rec57 : Nat → Nat → Int32 → mH → Option mH) (hrec57 : ∀ (b0 : Nat) (b1 : Nat) (b2 : Int32) (h : mH) (h' : mH), rec57 b0 b1 b2 h = some h' → G sc y_Tables_load prog_8_method_2_code 6 none 1 24 57 [(0, .ref b0), (1, .ref b1), (2, .int b2)] [] h none h') (b0 : Nat) (b1 : Nat) (b2 : Int32) (h : mH) (h' : mH) (hf : f_Tables_load_57b rec57 b0 b1 b2 h = some h') : G sc y_Tables_load prog_8_method_2_code 6 none 1 24 57 [(0, .ref b0), (1, .ref b1), (2, .int b2)] [] h none h' := by
  unfold f_Tables_load_57b at hf
  refine g_iload_n (pc := 57) 2 dd_Tables_load_44.2.2.2.2.2.2.2.1 rfl rfl ?_
  refine g_iconst (pc := 58) (3 : Int32) dd_Tables_load_44.2.2.2.2.2.2.2.2.1 (by decide) ?_
  refine g_icmpge (pc := 59) 187 dd_Tables_load_44.2.2.2.2.2.2.2.2.2.1 (by decide) (fun c42 => ?_) (fun c42 => ?_)
  · replace hf := (if_pos c42).symm.trans hf
    obtain rfl := ret1 hf
    exact g_vret (pc := 187) rfl dd_Tables_load_173.2.2.2.2.2.2
  · replace hf := (if_neg c42).symm.trans hf
    refine g_aload_n (pc := 62) 1 dd_Tables_load_44.2.2.2.2.2.2.2.2.2.2.1 rfl rfl ?_
    refine g_iload_n (pc := 63) 2 dd_Tables_load_44.2.2.2.2.2.2.2.2.2.2.2.1 rfl rfl ?_
    obtain ⟨u28, e27, hf⟩ := bd1_e hf
    obtain ⟨x31, h29, e30, hf⟩ := bd2_e hf
    refine g_callV (pc := 64) (ci := 4) [.int b2] (site_of si_Realm_hasOne (by decide) (by decide)) wd_793 wd_492 wd_493 dd_Tables_load_44.2.2.2.2.2.2.2.2.2.2.2.2.1 rfl e27 (Nat.le_of_ble_eq_true rfl) (fun z => absurd z si_na_Realm_hasOne) (fun z => absurd z si_na_Realm_hasOne) (fun z => absurd z si_na_Realm_hasOne) (c_Realm_hasOne e30) rfl ?_
    refine g_st [.int x31] rfl ?_
    refine g_istore_n (pc := 67) [(3, .int x31), (0, .ref b0), (1, .ref b1), (2, .int b2)] dd_Tables_load_44.2.2.2.2.2.2.2.2.2.2.2.2.2.1 rfl (Nat.le_of_ble_eq_true rfl) rfl ?_
    refine g_aload_n (pc := 68) 1 dd_Tables_load_44.2.2.2.2.2.2.2.2.2.2.2.2.2.2.1 rfl rfl ?_
    obtain ⟨x32, e33, hf⟩ := bd1_e hf
    refine g_get (pc := 69) (ci := 7) (kk := 4) dd_Tables_load_44.2.2.2.2.2.2.2.2.2.2.2.2.2.2.2.1 rfl in_Tables (by decide) wd_240 (gR_spec e33) ?_
    refine g_iload_n (pc := 72) 3 dd_Tables_load_44.2.2.2.2.2.2.2.2.2.2.2.2.2.2.2.2.1 rfl rfl ?_
    refine g_iload_n (pc := 73) 0 dd_Tables_load_44.2.2.2.2.2.2.2.2.2.2.2.2.2.2.2.2.2.1 rfl rfl ?_
    refine g_ifeq (pc := 74) 89 dd_Tables_load_44.2.2.2.2.2.2.2.2.2.2.2.2.2.2.2.2.2.2.1 (by decide) (fun c41 => ?_) (fun c41 => ?_)
    · replace hf := (if_pos c41).symm.trans hf
      refine g_iconst (pc := 89) ((-1) : Int32) dd_Tables_load_86.2.1 (by decide) ?_
      refine g_lv [1, 2, 3, 0] rfl ?_
      exact t_Tables_load_90 rec57 hrec57 _ _ _ _ _ _ _ _ _  hf
    · replace hf := (if_neg c41).symm.trans hf
      refine g_aload_n (pc := 77) 2 dd_Tables_load_44.2.2.2.2.2.2.2.2.2.2.2.2.2.2.2.2.2.2.2.1 rfl rfl ?_
      obtain ⟨x34, e35, hf⟩ := bd1_e hf
      refine g_get (pc := 78) (ci := 4) (kk := 18) dd_Tables_load_44.2.2.2.2.2.2.2.2.2.2.2.2.2.2.2.2.2.2.2.2.1 rfl in_Realm (by decide) wd_154 (gR_spec e35) ?_
      refine g_iconst (pc := 81) (0 : Int32) dd_Tables_load_44.2.2.2.2.2.2.2.2.2.2.2.2.2.2.2.2.2.2.2.2.2.1 (by decide) ?_
      refine g_iload_n (pc := 82) 3 dd_Tables_load_44.2.2.2.2.2.2.2.2.2.2.2.2.2.2.2.2.2.2.2.2.2.2.1 rfl rfl ?_
      obtain ⟨u37, e36, hf⟩ := bd1_e hf
      obtain ⟨x40, h38, e39, hf⟩ := bd2_e hf
      refine g_callV (pc := 83) (ci := 6) [.int (0 : Int32), .int b2] (site_of si_Sightings_sumDue (by decide) (by decide)) wd_789 wd_790 wd_791 dd_Tables_load_44.2.2.2.2.2.2.2.2.2.2.2.2.2.2.2.2.2.2.2.2.2.2.2 rfl e36 (Nat.le_of_ble_eq_true rfl) (fun z => absurd z si_na_Sightings_sumDue) (fun z => absurd z si_na_Sightings_sumDue) (fun z => absurd z si_na_Sightings_sumDue) (c_Sightings_sumDue e39) rfl ?_
      refine g_st [.int x40, .int b2, .ref x32] rfl ?_
      refine g_goto (pc := 86) 90 dd_Tables_load_86.1 (by decide) ?_
      refine g_lv [1, 2, 3, 0] rfl ?_
      exact t_Tables_load_90 rec57 hrec57 _ _ _ _ _ _ _ _ _  hf
def f_Tables_load_57  : Nat → Nat → Nat → Int32 → mH → Option mH
  | 0 => fun _ _ _ _ => none
  | n + 1 => f_Tables_load_57b  (f_Tables_load_57  n)
theorem t_Tables_load_57 {sc : Nat × (Nat → Int32)}  : ∀ (n : Nat) (b0 : Nat) (b1 : Nat) (b2 : Int32) (h : mH) (h' : mH) (hf : f_Tables_load_57  n b0 b1 b2 h = some h'), G sc y_Tables_load prog_8_method_2_code 6 none 1 24 57 [(0, .ref b0), (1, .ref b1), (2, .int b2)] [] h none h'
  | 0, _, _, _, _, _, hf => by cases hf
  | n + 1, _, _, _, _, _, hf => t_Tables_load_57b  (f_Tables_load_57  n) (t_Tables_load_57  n) _ _ _ _ _ hf
def f_Tables_load_26b (rec26 : Nat → Nat → Int32 → mH → Option mH) (b0 : Nat) (b1 : Nat) (b2 : Int32) (h : mH) : Option mH :=
  bd1 (gI h b0 7 0) fun x13 =>
  if x13 ≤ b2 then
    f_Tables_load_57  FU b0 b1 (0 : Int32) h
  else
    bd1 (gR h b0 7 3) fun x15 =>
    bd1 (gR h b1 4 18) fun x17 =>
    bd1 (kC h x17 6) fun _ =>
    bd2 (f_Sightings_sumDue x17 (1 : Int32) b2 h) fun x23 h21 =>
    bd1 (sI h21 0 x15 b2 x23) fun h24 =>
    rec26 b0 b1 (b2 + (1 : Int32)) h24
set_option maxRecDepth 20000 in
theorem t_Tables_load_26b {sc : Nat × (Nat → Int32)} (rec26 : Nat → Nat → Int32 → mH → Option mH) (hrec26 : ∀ (b0 : Nat) (b1 : Nat) (b2 : Int32) (h : mH) (h' : mH), rec26 b0 b1 b2 h = some h' → G sc y_Tables_load prog_8_method_2_code 6 none 1 24 26 [(0, .ref b0), (1, .ref b1), (2, .int b2)] [] h none h') (b0 : Nat) (b1 : Nat) (b2 : Int32) (h : mH) (h' : mH) (hf : f_Tables_load_26b rec26 b0 b1 b2 h = some h') : G sc y_Tables_load prog_8_method_2_code 6 none 1 24 26 [(0, .ref b0), (1, .ref b1), (2, .int b2)] [] h none h' := by
  unfold f_Tables_load_26b at hf
  refine g_iload_n (pc := 26) 2 dd_Tables_load_0.2.2.2.2.2.2.2.2.2.2.2.2.2.2.1 rfl rfl ?_
  refine g_aload_n (pc := 27) 0 dd_Tables_load_0.2.2.2.2.2.2.2.2.2.2.2.2.2.2.2.1 rfl rfl ?_
  obtain ⟨x13, e14, hf⟩ := bd1_e hf
  refine g_get (pc := 28) (ci := 7) (kk := 0) dd_Tables_load_0.2.2.2.2.2.2.2.2.2.2.2.2.2.2.2.2.1 rfl in_Tables (by decide) wd_236 (gI_spec e14) ?_
  refine g_icmpge (pc := 31) 55 dd_Tables_load_0.2.2.2.2.2.2.2.2.2.2.2.2.2.2.2.2.2.1 (by decide) (fun c26 => ?_) (fun c26 => ?_)
  · replace hf := (if_pos c26).symm.trans hf
    refine g_iconst (pc := 55) (0 : Int32) dd_Tables_load_44.2.2.2.2.2.1 (by decide) ?_
    refine g_istore_n (pc := 56) [(2, .int (0 : Int32)), (0, .ref b0), (1, .ref b1)] dd_Tables_load_44.2.2.2.2.2.2.1 rfl (Nat.le_of_ble_eq_true rfl) rfl ?_
    refine g_lv [1, 2, 0] rfl ?_
    exact t_Tables_load_57  FU _ _ _ _ _  hf
  · replace hf := (if_neg c26).symm.trans hf
    refine g_aload_n (pc := 34) 0 dd_Tables_load_0.2.2.2.2.2.2.2.2.2.2.2.2.2.2.2.2.2.2.1 rfl rfl ?_
    obtain ⟨x15, e16, hf⟩ := bd1_e hf
    refine g_get (pc := 35) (ci := 7) (kk := 3) dd_Tables_load_0.2.2.2.2.2.2.2.2.2.2.2.2.2.2.2.2.2.2.2.1 rfl in_Tables (by decide) wd_239 (gR_spec e16) ?_
    refine g_iload_n (pc := 38) 2 dd_Tables_load_0.2.2.2.2.2.2.2.2.2.2.2.2.2.2.2.2.2.2.2.2.1 rfl rfl ?_
    refine g_aload_n (pc := 39) 1 dd_Tables_load_0.2.2.2.2.2.2.2.2.2.2.2.2.2.2.2.2.2.2.2.2.2.1 rfl rfl ?_
    obtain ⟨x17, e18, hf⟩ := bd1_e hf
    refine g_get (pc := 40) (ci := 4) (kk := 18) dd_Tables_load_0.2.2.2.2.2.2.2.2.2.2.2.2.2.2.2.2.2.2.2.2.2.2.1 rfl in_Realm (by decide) wd_154 (gR_spec e18) ?_
    refine g_iconst (pc := 43) (1 : Int32) dd_Tables_load_0.2.2.2.2.2.2.2.2.2.2.2.2.2.2.2.2.2.2.2.2.2.2.2 (by decide) ?_
    refine g_iload_n (pc := 44) 2 dd_Tables_load_44.1 rfl rfl ?_
    obtain ⟨u20, e19, hf⟩ := bd1_e hf
    obtain ⟨x23, h21, e22, hf⟩ := bd2_e hf
    refine g_callV (pc := 45) (ci := 6) [.int (1 : Int32), .int b2] (site_of si_Sightings_sumDue (by decide) (by decide)) wd_789 wd_790 wd_791 dd_Tables_load_44.2.1 rfl e19 (Nat.le_of_ble_eq_true rfl) (fun z => absurd z si_na_Sightings_sumDue) (fun z => absurd z si_na_Sightings_sumDue) (fun z => absurd z si_na_Sightings_sumDue) (c_Sightings_sumDue e22) rfl ?_
    refine g_st [.int x23, .int b2, .ref x15] rfl ?_
    obtain ⟨h24, e25, hf⟩ := bd1_e hf
    refine g_iast (pc := 48) dd_Tables_load_44.2.2.1 e25 ?_
    refine g_iinc (pc := 49) 2 (b2 + (1 : Int32)) [(2, .int (b2 + (1 : Int32))), (0, .ref b0), (1, .ref b1)] dd_Tables_load_44.2.2.2.1 rfl rfl (Nat.le_of_ble_eq_true rfl) rfl ?_
    refine g_goto (pc := 52) 26 dd_Tables_load_44.2.2.2.2.1 (by decide) ?_
    refine g_lv [1, 2, 0] rfl ?_
    exact hrec26 _ _ _ _ _  hf
def f_Tables_load_26  : Nat → Nat → Nat → Int32 → mH → Option mH
  | 0 => fun _ _ _ _ => none
  | n + 1 => f_Tables_load_26b  (f_Tables_load_26  n)
theorem t_Tables_load_26 {sc : Nat × (Nat → Int32)}  : ∀ (n : Nat) (b0 : Nat) (b1 : Nat) (b2 : Int32) (h : mH) (h' : mH) (hf : f_Tables_load_26  n b0 b1 b2 h = some h'), G sc y_Tables_load prog_8_method_2_code 6 none 1 24 26 [(0, .ref b0), (1, .ref b1), (2, .int b2)] [] h none h'
  | 0, _, _, _, _, _, hf => by cases hf
  | n + 1, _, _, _, _, _, hf => t_Tables_load_26b  (f_Tables_load_26  n) (t_Tables_load_26  n) _ _ _ _ _ hf
def f_Tables_load_0  (a0 : Nat) (a1 : Nat) (h : mH) : Option mH :=
  bd1 (gI h a1 4 0) fun x1 =>
  bd1 (pV h a0 7 0 (.int x1)) fun h3 =>
  bd1 (gR h3 a0 7 1) fun x5 =>
  bd1 (f_Arrays_fillI x5 (0 : Int32) h3) fun h7 =>
  bd1 (gR h7 a0 7 2) fun x9 =>
  bd1 (f_Arrays_fillI x9 (0 : Int32) h7) fun h11 =>
  f_Tables_load_26  FU a0 a1 (0 : Int32) h11
set_option maxRecDepth 20000 in
theorem t_Tables_load_0 {sc : Nat × (Nat → Int32)}  (a0 : Nat) (a1 : Nat) (h : mH) (h' : mH) (hf : f_Tables_load_0  a0 a1 h = some h') : G sc y_Tables_load prog_8_method_2_code 6 none 1 24 0 [(0, .ref a0), (1, .ref a1)] [] h none h' := by
  unfold f_Tables_load_0 at hf
  refine g_aload_n (pc := 0) 0 dd_Tables_load_0.1 rfl rfl ?_
  refine g_aload_n (pc := 1) 1 dd_Tables_load_0.2.1 rfl rfl ?_
  obtain ⟨x1, e2, hf⟩ := bd1_e hf
  refine g_get (pc := 2) (ci := 4) (kk := 0) dd_Tables_load_0.2.2.1 rfl in_Realm (by decide) wd_95 (gI_spec e2) ?_
  obtain ⟨h3, e4, hf⟩ := bd1_e hf
  refine g_put (pc := 5) (ci := 7) (kk := 0) ty_Tables tyok_Tables nm_Tables dd_Tables_load_0.2.2.2.1 rfl in_Tables (by decide) wd_236 rfl (fun _ => rfl) (fun _ => rfl) (fun _ z => by cases z) e4 ?_
  refine g_aload_n (pc := 8) 0 dd_Tables_load_0.2.2.2.2.1 rfl rfl ?_
  obtain ⟨x5, e6, hf⟩ := bd1_e hf
  refine g_get (pc := 9) (ci := 7) (kk := 1) dd_Tables_load_0.2.2.2.2.2.1 rfl in_Tables (by decide) wd_237 (gR_spec e6) ?_
  refine g_iconst (pc := 12) (0 : Int32) dd_Tables_load_0.2.2.2.2.2.2.1 (by decide) ?_
  obtain ⟨h7, e8, hf⟩ := bd1_e hf
  refine g_callS (pc := 13) [.ref x5, .int (0 : Int32)] (site_of si_Arrays_fillI (by decide) (by decide)) wd_788 wd_355 dd_Tables_load_0.2.2.2.2.2.2.2.1 (Nat.le_of_ble_eq_true rfl) (fun z => absurd z si_na_Arrays_fillI) (fun z => absurd z si_na_Arrays_fillI) (fun z => absurd z si_na_Arrays_fillI) (c_Arrays_fillI e8) rfl ?_
  refine g_st [] rfl ?_
  refine g_aload_n (pc := 16) 0 dd_Tables_load_0.2.2.2.2.2.2.2.2.1 rfl rfl ?_
  obtain ⟨x9, e10, hf⟩ := bd1_e hf
  refine g_get (pc := 17) (ci := 7) (kk := 2) dd_Tables_load_0.2.2.2.2.2.2.2.2.2.1 rfl in_Tables (by decide) wd_238 (gR_spec e10) ?_
  refine g_iconst (pc := 20) (0 : Int32) dd_Tables_load_0.2.2.2.2.2.2.2.2.2.2.1 (by decide) ?_
  obtain ⟨h11, e12, hf⟩ := bd1_e hf
  refine g_callS (pc := 21) [.ref x9, .int (0 : Int32)] (site_of si_Arrays_fillI (by decide) (by decide)) wd_788 wd_355 dd_Tables_load_0.2.2.2.2.2.2.2.2.2.2.2.1 (Nat.le_of_ble_eq_true rfl) (fun z => absurd z si_na_Arrays_fillI) (fun z => absurd z si_na_Arrays_fillI) (fun z => absurd z si_na_Arrays_fillI) (c_Arrays_fillI e12) rfl ?_
  refine g_st [] rfl ?_
  refine g_iconst (pc := 24) (0 : Int32) dd_Tables_load_0.2.2.2.2.2.2.2.2.2.2.2.2.1 (by decide) ?_
  refine g_istore_n (pc := 25) [(2, .int (0 : Int32)), (0, .ref a0), (1, .ref a1)] dd_Tables_load_0.2.2.2.2.2.2.2.2.2.2.2.2.2.1 rfl (Nat.le_of_ble_eq_true rfl) rfl ?_
  refine g_lv [1, 2, 0] rfl ?_
  exact t_Tables_load_26  FU _ _ _ _ _  hf
def f_Tables_load (a0 : Nat) (a1 : Nat) (h : mH) : Option mH := f_Tables_load_0 a0 a1 h
theorem c_Tables_load {sc : Nat × (Nat → Int32)} {a0 : Nat} {a1 : Nat} {h : mH} {h' : mH} (hf : f_Tables_load a0 a1 h = some h') : MM sc y_Tables_load prog_8_method_2_code 6 none 1 24 [.ref a0, .ref a1] h none h' :=
  mm_of_G si_pn_Tables (Nat.le_of_ble_eq_true rfl) (t_Tables_load_0 _ _ _ _ hf)
/-! Tables spendAlone (II)V -/
set_option maxRecDepth 100000 in
theorem dd_Tables_spendAlone_0 : (decode prog_8_method_5_code 0 = .ok (.aload_n 0, 1)) ∧ (decode prog_8_method_5_code 1 = .ok (.getfield 9, 3)) ∧ (decode prog_8_method_5_code 4 = .ok (.iload_n 1, 1)) ∧ (decode prog_8_method_5_code 5 = .ok (.iconst 5, 1)) ∧ (decode prog_8_method_5_code 6 = .ok (.imul, 1)) ∧ (decode prog_8_method_5_code 7 = .ok (.iload_n 2, 1)) ∧ (decode prog_8_method_5_code 8 = .ok (.iadd, 1)) ∧ (decode prog_8_method_5_code 9 = .ok (.iaload, 1)) ∧ (decode prog_8_method_5_code 10 = .ok (.istore_n 3, 1)) ∧ (decode prog_8_method_5_code 11 = .ok (.aload_n 0, 1)) ∧ (decode prog_8_method_5_code 12 = .ok (.getfield 15, 3)) ∧ (decode prog_8_method_5_code 15 = .ok (.iload_n 1, 1)) ∧ (decode prog_8_method_5_code 16 = .ok (.iconst 5, 1)) ∧ (decode prog_8_method_5_code 17 = .ok (.imul, 1)) ∧ (decode prog_8_method_5_code 18 = .ok (.iload_n 2, 1)) ∧ (decode prog_8_method_5_code 19 = .ok (.iadd, 1)) ∧ (decode prog_8_method_5_code 20 = .ok (.iaload, 1)) ∧ (decode prog_8_method_5_code 21 = .ok (.istore 4, 2)) ∧ (decode prog_8_method_5_code 23 = .ok (.aload_n 0, 1)) ∧ (decode prog_8_method_5_code 24 = .ok (.getfield 24, 3)) ∧ (decode prog_8_method_5_code 27 = .ok (.iload_n 1, 1)) ∧ (decode prog_8_method_5_code 28 = .ok (.iaload, 1)) ∧ (decode prog_8_method_5_code 29 = .ok (.istore 5, 2)) ∧ (decode prog_8_method_5_code 31 = .ok (.iload 5, 2)) := by
  have h : List.drop 0 prog_8_method_5_code.data.toList = 0x2a :: _ := rfl
  refine ⟨zq_k_n 42 h rfl (zq_o_42 _), ?_⟩
  replace h := zq_nx1 (q := 1) h rfl
  refine ⟨zq_k_u2 180 (fun z => .getfield z) 9 h rfl (zq_o_180 _) (by decide +kernel), ?_⟩
  replace h := zq_nx3 (q := 4) h rfl
  refine ⟨zq_k_n 27 h rfl (zq_o_27 _), ?_⟩
  replace h := zq_nx1 (q := 5) h rfl
  refine ⟨zq_k_n 8 h rfl (zq_o_8 _), ?_⟩
  replace h := zq_nx1 (q := 6) h rfl
  refine ⟨zq_k_n 104 h rfl (zq_o_104 _), ?_⟩
  replace h := zq_nx1 (q := 7) h rfl
  refine ⟨zq_k_n 28 h rfl (zq_o_28 _), ?_⟩
  replace h := zq_nx1 (q := 8) h rfl
  refine ⟨zq_k_n 96 h rfl (zq_o_96 _), ?_⟩
  replace h := zq_nx1 (q := 9) h rfl
  refine ⟨zq_k_n 46 h rfl (zq_o_46 _), ?_⟩
  replace h := zq_nx1 (q := 10) h rfl
  refine ⟨zq_k_n 62 h rfl (zq_o_62 _), ?_⟩
  replace h := zq_nx1 (q := 11) h rfl
  refine ⟨zq_k_n 42 h rfl (zq_o_42 _), ?_⟩
  replace h := zq_nx1 (q := 12) h rfl
  refine ⟨zq_k_u2 180 (fun z => .getfield z) 15 h rfl (zq_o_180 _) (by decide +kernel), ?_⟩
  replace h := zq_nx3 (q := 15) h rfl
  refine ⟨zq_k_n 27 h rfl (zq_o_27 _), ?_⟩
  replace h := zq_nx1 (q := 16) h rfl
  refine ⟨zq_k_n 8 h rfl (zq_o_8 _), ?_⟩
  replace h := zq_nx1 (q := 17) h rfl
  refine ⟨zq_k_n 104 h rfl (zq_o_104 _), ?_⟩
  replace h := zq_nx1 (q := 18) h rfl
  refine ⟨zq_k_n 28 h rfl (zq_o_28 _), ?_⟩
  replace h := zq_nx1 (q := 19) h rfl
  refine ⟨zq_k_n 96 h rfl (zq_o_96 _), ?_⟩
  replace h := zq_nx1 (q := 20) h rfl
  refine ⟨zq_k_n 46 h rfl (zq_o_46 _), ?_⟩
  replace h := zq_nx1 (q := 21) h rfl
  refine ⟨zq_k_u1 54 (fun z => .istore z) 4 h rfl (zq_o_54 _) (by decide +kernel), ?_⟩
  replace h := zq_nx2 (q := 23) h rfl
  refine ⟨zq_k_n 42 h rfl (zq_o_42 _), ?_⟩
  replace h := zq_nx1 (q := 24) h rfl
  refine ⟨zq_k_u2 180 (fun z => .getfield z) 24 h rfl (zq_o_180 _) (by decide +kernel), ?_⟩
  replace h := zq_nx3 (q := 27) h rfl
  refine ⟨zq_k_n 27 h rfl (zq_o_27 _), ?_⟩
  replace h := zq_nx1 (q := 28) h rfl
  refine ⟨zq_k_n 46 h rfl (zq_o_46 _), ?_⟩
  replace h := zq_nx1 (q := 29) h rfl
  refine ⟨zq_k_u1 54 (fun z => .istore z) 5 h rfl (zq_o_54 _) (by decide +kernel), ?_⟩
  replace h := zq_nx2 (q := 31) h rfl
  exact zq_k_u1 21 (fun z => .iload z) 5 h rfl (zq_o_21 _) (by decide +kernel)
set_option maxRecDepth 100000 in
theorem dd_Tables_spendAlone_33 : (decode prog_8_method_5_code 33 = .ok (.ifCond .lt 69, 3)) ∧ (decode prog_8_method_5_code 36 = .ok (.lconst 0, 1)) ∧ (decode prog_8_method_5_code 37 = .ok (.lstore 6, 2)) ∧ (decode prog_8_method_5_code 39 = .ok (.iload_n 3, 1)) ∧ (decode prog_8_method_5_code 40 = .ok (.istore 8, 2)) ∧ (decode prog_8_method_5_code 42 = .ok (.iload 8, 2)) ∧ (decode prog_8_method_5_code 44 = .ok (.iload 4, 2)) ∧ (decode prog_8_method_5_code 46 = .ok (.if_icmp .gt 36, 3)) ∧ (decode prog_8_method_5_code 49 = .ok (.iload 8, 2)) ∧ (decode prog_8_method_5_code 51 = .ok (.iload 5, 2)) ∧ (decode prog_8_method_5_code 53 = .ok (.if_icmp .gt 29, 3)) ∧ (decode prog_8_method_5_code 56 = .ok (.lload 6, 2)) ∧ (decode prog_8_method_5_code 58 = .ok (.aload_n 0, 1)) ∧ (decode prog_8_method_5_code 59 = .ok (.getfield 27, 3)) ∧ (decode prog_8_method_5_code 62 = .ok (.iload_n 1, 1)) ∧ (decode prog_8_method_5_code 63 = .ok (.bipush 6, 2)) ∧ (decode prog_8_method_5_code 65 = .ok (.imul, 1)) ∧ (decode prog_8_method_5_code 66 = .ok (.iload 5, 2)) ∧ (decode prog_8_method_5_code 68 = .ok (.iadd, 1)) ∧ (decode prog_8_method_5_code 69 = .ok (.iload 8, 2)) ∧ (decode prog_8_method_5_code 71 = .ok (.isub, 1)) ∧ (decode prog_8_method_5_code 72 = .ok (.laload, 1)) ∧ (decode prog_8_method_5_code 73 = .ok (.ladd, 1)) ∧ (decode prog_8_method_5_code 74 = .ok (.lstore 6, 2)) := by
  have h : List.drop 33 prog_8_method_5_code.data.toList = 0x9b :: _ := rfl
  refine ⟨zq_k_s2 155 (fun z => .ifCond .lt z) 69 h rfl (zq_o_155 _) (by decide +kernel), ?_⟩
  replace h := zq_nx3 (q := 36) h rfl
  refine ⟨zq_k_n 9 h rfl (zq_o_9 _), ?_⟩
  replace h := zq_nx1 (q := 37) h rfl
  refine ⟨zq_k_u1 55 (fun z => .lstore z) 6 h rfl (zq_o_55 _) (by decide +kernel), ?_⟩
  replace h := zq_nx2 (q := 39) h rfl
  refine ⟨zq_k_n 29 h rfl (zq_o_29 _), ?_⟩
  replace h := zq_nx1 (q := 40) h rfl
  refine ⟨zq_k_u1 54 (fun z => .istore z) 8 h rfl (zq_o_54 _) (by decide +kernel), ?_⟩
  replace h := zq_nx2 (q := 42) h rfl
  refine ⟨zq_k_u1 21 (fun z => .iload z) 8 h rfl (zq_o_21 _) (by decide +kernel), ?_⟩
  replace h := zq_nx2 (q := 44) h rfl
  refine ⟨zq_k_u1 21 (fun z => .iload z) 4 h rfl (zq_o_21 _) (by decide +kernel), ?_⟩
  replace h := zq_nx2 (q := 46) h rfl
  refine ⟨zq_k_s2 163 (fun z => .if_icmp .gt z) 36 h rfl (zq_o_163 _) (by decide +kernel), ?_⟩
  replace h := zq_nx3 (q := 49) h rfl
  refine ⟨zq_k_u1 21 (fun z => .iload z) 8 h rfl (zq_o_21 _) (by decide +kernel), ?_⟩
  replace h := zq_nx2 (q := 51) h rfl
  refine ⟨zq_k_u1 21 (fun z => .iload z) 5 h rfl (zq_o_21 _) (by decide +kernel), ?_⟩
  replace h := zq_nx2 (q := 53) h rfl
  refine ⟨zq_k_s2 163 (fun z => .if_icmp .gt z) 29 h rfl (zq_o_163 _) (by decide +kernel), ?_⟩
  replace h := zq_nx3 (q := 56) h rfl
  refine ⟨zq_k_u1 22 (fun z => .lload z) 6 h rfl (zq_o_22 _) (by decide +kernel), ?_⟩
  replace h := zq_nx2 (q := 58) h rfl
  refine ⟨zq_k_n 42 h rfl (zq_o_42 _), ?_⟩
  replace h := zq_nx1 (q := 59) h rfl
  refine ⟨zq_k_u2 180 (fun z => .getfield z) 27 h rfl (zq_o_180 _) (by decide +kernel), ?_⟩
  replace h := zq_nx3 (q := 62) h rfl
  refine ⟨zq_k_n 27 h rfl (zq_o_27 _), ?_⟩
  replace h := zq_nx1 (q := 63) h rfl
  refine ⟨zq_k_s1 16 (fun z => .bipush z) 6 h rfl (zq_o_16 _) (by decide +kernel), ?_⟩
  replace h := zq_nx2 (q := 65) h rfl
  refine ⟨zq_k_n 104 h rfl (zq_o_104 _), ?_⟩
  replace h := zq_nx1 (q := 66) h rfl
  refine ⟨zq_k_u1 21 (fun z => .iload z) 5 h rfl (zq_o_21 _) (by decide +kernel), ?_⟩
  replace h := zq_nx2 (q := 68) h rfl
  refine ⟨zq_k_n 96 h rfl (zq_o_96 _), ?_⟩
  replace h := zq_nx1 (q := 69) h rfl
  refine ⟨zq_k_u1 21 (fun z => .iload z) 8 h rfl (zq_o_21 _) (by decide +kernel), ?_⟩
  replace h := zq_nx2 (q := 71) h rfl
  refine ⟨zq_k_n 100 h rfl (zq_o_100 _), ?_⟩
  replace h := zq_nx1 (q := 72) h rfl
  refine ⟨zq_k_n 47 h rfl (zq_o_47 _), ?_⟩
  replace h := zq_nx1 (q := 73) h rfl
  refine ⟨zq_k_n 97 h rfl (zq_o_97 _), ?_⟩
  replace h := zq_nx1 (q := 74) h rfl
  exact zq_k_u1 55 (fun z => .lstore z) 6 h rfl (zq_o_55 _) (by decide +kernel)
set_option maxRecDepth 100000 in
theorem dd_Tables_spendAlone_76 : (decode prog_8_method_5_code 76 = .ok (.iinc 8 1, 3)) ∧ (decode prog_8_method_5_code 79 = .ok (.goto (-37), 3)) ∧ (decode prog_8_method_5_code 82 = .ok (.aload_n 0, 1)) ∧ (decode prog_8_method_5_code 83 = .ok (.getfield 27, 3)) ∧ (decode prog_8_method_5_code 86 = .ok (.iload_n 1, 1)) ∧ (decode prog_8_method_5_code 87 = .ok (.bipush 6, 2)) ∧ (decode prog_8_method_5_code 89 = .ok (.imul, 1)) ∧ (decode prog_8_method_5_code 90 = .ok (.iload 5, 2)) ∧ (decode prog_8_method_5_code 92 = .ok (.iadd, 1)) ∧ (decode prog_8_method_5_code 93 = .ok (.lload 6, 2)) ∧ (decode prog_8_method_5_code 95 = .ok (.lastore, 1)) ∧ (decode prog_8_method_5_code 96 = .ok (.iinc 5 (-1), 3)) ∧ (decode prog_8_method_5_code 99 = .ok (.goto (-68), 3)) ∧ (decode prog_8_method_5_code 102 = .ok (.return_, 1)) := by
  have h : List.drop 76 prog_8_method_5_code.data.toList = 0x84 :: _ := rfl
  refine ⟨zq_k_iinc 8 1 h rfl (zq_o_132 _) (by decide +kernel) (by decide +kernel), ?_⟩
  replace h := zq_nx3 (q := 79) h rfl
  refine ⟨zq_k_s2 167 (fun z => .goto z) (-37) h rfl (zq_o_167 _) (by decide +kernel), ?_⟩
  replace h := zq_nx3 (q := 82) h rfl
  refine ⟨zq_k_n 42 h rfl (zq_o_42 _), ?_⟩
  replace h := zq_nx1 (q := 83) h rfl
  refine ⟨zq_k_u2 180 (fun z => .getfield z) 27 h rfl (zq_o_180 _) (by decide +kernel), ?_⟩
  replace h := zq_nx3 (q := 86) h rfl
  refine ⟨zq_k_n 27 h rfl (zq_o_27 _), ?_⟩
  replace h := zq_nx1 (q := 87) h rfl
  refine ⟨zq_k_s1 16 (fun z => .bipush z) 6 h rfl (zq_o_16 _) (by decide +kernel), ?_⟩
  replace h := zq_nx2 (q := 89) h rfl
  refine ⟨zq_k_n 104 h rfl (zq_o_104 _), ?_⟩
  replace h := zq_nx1 (q := 90) h rfl
  refine ⟨zq_k_u1 21 (fun z => .iload z) 5 h rfl (zq_o_21 _) (by decide +kernel), ?_⟩
  replace h := zq_nx2 (q := 92) h rfl
  refine ⟨zq_k_n 96 h rfl (zq_o_96 _), ?_⟩
  replace h := zq_nx1 (q := 93) h rfl
  refine ⟨zq_k_u1 22 (fun z => .lload z) 6 h rfl (zq_o_22 _) (by decide +kernel), ?_⟩
  replace h := zq_nx2 (q := 95) h rfl
  refine ⟨zq_k_n 80 h rfl (zq_o_80 _), ?_⟩
  replace h := zq_nx1 (q := 96) h rfl
  refine ⟨zq_k_iinc 5 (-1) h rfl (zq_o_132 _) (by decide +kernel) (by decide +kernel), ?_⟩
  replace h := zq_nx3 (q := 99) h rfl
  refine ⟨zq_k_s2 167 (fun z => .goto z) (-68) h rfl (zq_o_167 _) (by decide +kernel), ?_⟩
  replace h := zq_nx3 (q := 102) h rfl
  exact zq_k_n 177 h rfl (zq_o_177 _)
def f_Tables_spendAlone_82 (rec31 : Nat → Int32 → Int32 → Int32 → Int32 → mH → Option mH) (b0 : Nat) (b1 : Int32) (b3 : Int32) (b4 : Int32) (b5 : Int32) (b6 : Int64) (h : mH) : Option mH :=
  bd1 (gR h b0 7 6) fun x20 =>
  bd1 (sL h x20 ((b1 * (6 : Int32)) + b5) b6) fun h22 =>
  rec31 b0 b1 b3 b4 (b5 + ((-1) : Int32)) h22
set_option maxRecDepth 20000 in
theorem t_Tables_spendAlone_82 {sc : Nat × (Nat → Int32)} (rec31 : Nat → Int32 → Int32 → Int32 → Int32 → mH → Option mH) (hrec31 : ∀ (b0 : Nat) (b1 : Int32) (b3 : Int32) (b4 : Int32) (b5 : Int32) (h : mH) (h' : mH), rec31 b0 b1 b3 b4 b5 h = some h' → G sc y_Tables_spendAlone prog_8_method_5_code 9 none 0 0 31 [(0, .ref b0), (1, .int b1), (3, .int b3), (4, .int b4), (5, .int b5)] [] h none h') (b0 : Nat) (b1 : Int32) (b3 : Int32) (b4 : Int32) (b5 : Int32) (b6 : Int64) (h : mH) (h' : mH) (hf : f_Tables_spendAlone_82 rec31 b0 b1 b3 b4 b5 b6 h = some h') : G sc y_Tables_spendAlone prog_8_method_5_code 9 none 0 0 82 [(0, .ref b0), (1, .int b1), (3, .int b3), (4, .int b4), (5, .int b5), (6, .long b6)] [] h none h' := by
  unfold f_Tables_spendAlone_82 at hf
  refine g_aload_n (pc := 82) 0 dd_Tables_spendAlone_76.2.2.1 rfl rfl ?_
  obtain ⟨x20, e21, hf⟩ := bd1_e hf
  refine g_get (pc := 83) (ci := 7) (kk := 6) dd_Tables_spendAlone_76.2.2.2.1 rfl in_Tables (by decide) wd_242 (gR_spec e21) ?_
  refine g_iload_n (pc := 86) 1 dd_Tables_spendAlone_76.2.2.2.2.1 rfl rfl ?_
  refine g_bipush (pc := 87) (6 : Int32) dd_Tables_spendAlone_76.2.2.2.2.2.1 (by decide) ?_
  refine g_imul (pc := 89) dd_Tables_spendAlone_76.2.2.2.2.2.2.1 ?_
  refine g_iload (pc := 90) 4 dd_Tables_spendAlone_76.2.2.2.2.2.2.2.1 rfl ?_
  refine g_iadd (pc := 92) dd_Tables_spendAlone_76.2.2.2.2.2.2.2.2.1 ?_
  refine g_lload (pc := 93) 5 dd_Tables_spendAlone_76.2.2.2.2.2.2.2.2.2.1 rfl ?_
  obtain ⟨h22, e23, hf⟩ := bd1_e hf
  refine g_last (pc := 95) dd_Tables_spendAlone_76.2.2.2.2.2.2.2.2.2.2.1 e23 ?_
  refine g_iinc (pc := 96) 4 (b5 + ((-1) : Int32)) [(5, .int (b5 + ((-1) : Int32))), (0, .ref b0), (1, .int b1), (3, .int b3), (4, .int b4), (6, .long b6)] dd_Tables_spendAlone_76.2.2.2.2.2.2.2.2.2.2.2.1 rfl rfl (Nat.le_of_ble_eq_true rfl) rfl ?_
  refine g_goto (pc := 99) 31 dd_Tables_spendAlone_76.2.2.2.2.2.2.2.2.2.2.2.2.1 (by decide) ?_
  refine g_lv [1, 2, 3, 4, 0] rfl ?_
  exact hrec31 _ _ _ _ _ _ _  hf
def f_Tables_spendAlone_42b (rec31 : Nat → Int32 → Int32 → Int32 → Int32 → mH → Option mH) (rec42 : Nat → Int32 → Int32 → Int32 → Int32 → Int64 → Int32 → mH → Option mH) (b0 : Nat) (b1 : Int32) (b3 : Int32) (b4 : Int32) (b5 : Int32) (b6 : Int64) (b8 : Int32) (h : mH) : Option mH :=
  if b4 < b8 then
    f_Tables_spendAlone_82 rec31 b0 b1 b3 b4 b5 b6 h
  else
    if b5 < b8 then
      f_Tables_spendAlone_82 rec31 b0 b1 b3 b4 b5 b6 h
    else
      bd1 (gR h b0 7 6) fun x14 =>
      bd1 (aL h x14 (((b1 * (6 : Int32)) + b5) - b8)) fun x16 =>
      rec42 b0 b1 b3 b4 b5 (b6 + x16) (b8 + (1 : Int32)) h
set_option maxRecDepth 20000 in
theorem t_Tables_spendAlone_42b {sc : Nat × (Nat → Int32)} (rec31 : Nat → Int32 → Int32 → Int32 → Int32 → mH → Option mH) (hrec31 : ∀ (b0 : Nat) (b1 : Int32) (b3 : Int32) (b4 : Int32) (b5 : Int32) (h : mH) (h' : mH), rec31 b0 b1 b3 b4 b5 h = some h' → G sc y_Tables_spendAlone prog_8_method_5_code 9 none 0 0 31 [(0, .ref b0), (1, .int b1), (3, .int b3), (4, .int b4), (5, .int b5)] [] h none h') (rec42 : Nat → Int32 → Int32 → Int32 → Int32 → Int64 → Int32 → mH → Option mH) (hrec42 : ∀ (b0 : Nat) (b1 : Int32) (b3 : Int32) (b4 : Int32) (b5 : Int32) (b6 : Int64) (b8 : Int32) (h : mH) (h' : mH), rec42 b0 b1 b3 b4 b5 b6 b8 h = some h' → G sc y_Tables_spendAlone prog_8_method_5_code 9 none 0 0 42 [(0, .ref b0), (1, .int b1), (3, .int b3), (4, .int b4), (5, .int b5), (6, .long b6), (8, .int b8)] [] h none h') (b0 : Nat) (b1 : Int32) (b3 : Int32) (b4 : Int32) (b5 : Int32) (b6 : Int64) (b8 : Int32) (h : mH) (h' : mH) (hf : f_Tables_spendAlone_42b rec31 rec42 b0 b1 b3 b4 b5 b6 b8 h = some h') : G sc y_Tables_spendAlone prog_8_method_5_code 9 none 0 0 42 [(0, .ref b0), (1, .int b1), (3, .int b3), (4, .int b4), (5, .int b5), (6, .long b6), (8, .int b8)] [] h none h' := by
  unfold f_Tables_spendAlone_42b at hf
  refine g_iload (pc := 42) 6 dd_Tables_spendAlone_33.2.2.2.2.2.1 rfl ?_
  refine g_iload (pc := 44) 3 dd_Tables_spendAlone_33.2.2.2.2.2.2.1 rfl ?_
  refine g_icmpgt (pc := 46) 82 dd_Tables_spendAlone_33.2.2.2.2.2.2.2.1 (by decide) (fun c19 => ?_) (fun c19 => ?_)
  · replace hf := (if_pos c19).symm.trans hf
    refine g_lv [0, 1, 2, 3, 4, 5] rfl ?_
    exact t_Tables_spendAlone_82 rec31 hrec31 _ _ _ _ _ _ _ _  hf
  · replace hf := (if_neg c19).symm.trans hf
    refine g_iload (pc := 49) 6 dd_Tables_spendAlone_33.2.2.2.2.2.2.2.2.1 rfl ?_
    refine g_iload (pc := 51) 4 dd_Tables_spendAlone_33.2.2.2.2.2.2.2.2.2.1 rfl ?_
    refine g_icmpgt (pc := 53) 82 dd_Tables_spendAlone_33.2.2.2.2.2.2.2.2.2.2.1 (by decide) (fun c18 => ?_) (fun c18 => ?_)
    · replace hf := (if_pos c18).symm.trans hf
      refine g_lv [0, 1, 2, 3, 4, 5] rfl ?_
      exact t_Tables_spendAlone_82 rec31 hrec31 _ _ _ _ _ _ _ _  hf
    · replace hf := (if_neg c18).symm.trans hf
      refine g_lload (pc := 56) 5 dd_Tables_spendAlone_33.2.2.2.2.2.2.2.2.2.2.2.1 rfl ?_
      refine g_aload_n (pc := 58) 0 dd_Tables_spendAlone_33.2.2.2.2.2.2.2.2.2.2.2.2.1 rfl rfl ?_
      obtain ⟨x14, e15, hf⟩ := bd1_e hf
      refine g_get (pc := 59) (ci := 7) (kk := 6) dd_Tables_spendAlone_33.2.2.2.2.2.2.2.2.2.2.2.2.2.1 rfl in_Tables (by decide) wd_242 (gR_spec e15) ?_
      refine g_iload_n (pc := 62) 1 dd_Tables_spendAlone_33.2.2.2.2.2.2.2.2.2.2.2.2.2.2.1 rfl rfl ?_
      refine g_bipush (pc := 63) (6 : Int32) dd_Tables_spendAlone_33.2.2.2.2.2.2.2.2.2.2.2.2.2.2.2.1 (by decide) ?_
      refine g_imul (pc := 65) dd_Tables_spendAlone_33.2.2.2.2.2.2.2.2.2.2.2.2.2.2.2.2.1 ?_
      refine g_iload (pc := 66) 4 dd_Tables_spendAlone_33.2.2.2.2.2.2.2.2.2.2.2.2.2.2.2.2.2.1 rfl ?_
      refine g_iadd (pc := 68) dd_Tables_spendAlone_33.2.2.2.2.2.2.2.2.2.2.2.2.2.2.2.2.2.2.1 ?_
      refine g_iload (pc := 69) 6 dd_Tables_spendAlone_33.2.2.2.2.2.2.2.2.2.2.2.2.2.2.2.2.2.2.2.1 rfl ?_
      refine g_isub (pc := 71) dd_Tables_spendAlone_33.2.2.2.2.2.2.2.2.2.2.2.2.2.2.2.2.2.2.2.2.1 ?_
      obtain ⟨x16, e17, hf⟩ := bd1_e hf
      refine g_lald (pc := 72) dd_Tables_spendAlone_33.2.2.2.2.2.2.2.2.2.2.2.2.2.2.2.2.2.2.2.2.2.1 e17 ?_
      refine g_ladd (pc := 73) dd_Tables_spendAlone_33.2.2.2.2.2.2.2.2.2.2.2.2.2.2.2.2.2.2.2.2.2.2.1 ?_
      refine g_lstore (pc := 74) [(6, .long (b6 + x16)), (0, .ref b0), (1, .int b1), (3, .int b3), (4, .int b4), (5, .int b5), (8, .int b8)] dd_Tables_spendAlone_33.2.2.2.2.2.2.2.2.2.2.2.2.2.2.2.2.2.2.2.2.2.2.2 (Nat.le_of_ble_eq_true rfl) rfl ?_
      refine g_iinc (pc := 76) 6 (b8 + (1 : Int32)) [(8, .int (b8 + (1 : Int32))), (6, .long (b6 + x16)), (0, .ref b0), (1, .int b1), (3, .int b3), (4, .int b4), (5, .int b5)] dd_Tables_spendAlone_76.1 rfl rfl (Nat.le_of_ble_eq_true rfl) rfl ?_
      refine g_goto (pc := 79) 42 dd_Tables_spendAlone_76.2.1 (by decide) ?_
      refine g_lv [2, 3, 4, 5, 6, 1, 0] rfl ?_
      exact hrec42 _ _ _ _ _ _ _ _ _  hf
def f_Tables_spendAlone_42 (rec31 : Nat → Int32 → Int32 → Int32 → Int32 → mH → Option mH) : Nat → Nat → Int32 → Int32 → Int32 → Int32 → Int64 → Int32 → mH → Option mH
  | 0 => fun _ _ _ _ _ _ _ _ => none
  | n + 1 => f_Tables_spendAlone_42b rec31 (f_Tables_spendAlone_42 rec31 n)
theorem t_Tables_spendAlone_42 {sc : Nat × (Nat → Int32)} (rec31 : Nat → Int32 → Int32 → Int32 → Int32 → mH → Option mH) (hrec31 : ∀ (b0 : Nat) (b1 : Int32) (b3 : Int32) (b4 : Int32) (b5 : Int32) (h : mH) (h' : mH), rec31 b0 b1 b3 b4 b5 h = some h' → G sc y_Tables_spendAlone prog_8_method_5_code 9 none 0 0 31 [(0, .ref b0), (1, .int b1), (3, .int b3), (4, .int b4), (5, .int b5)] [] h none h') : ∀ (n : Nat) (b0 : Nat) (b1 : Int32) (b3 : Int32) (b4 : Int32) (b5 : Int32) (b6 : Int64) (b8 : Int32) (h : mH) (h' : mH) (hf : f_Tables_spendAlone_42 rec31 n b0 b1 b3 b4 b5 b6 b8 h = some h'), G sc y_Tables_spendAlone prog_8_method_5_code 9 none 0 0 42 [(0, .ref b0), (1, .int b1), (3, .int b3), (4, .int b4), (5, .int b5), (6, .long b6), (8, .int b8)] [] h none h'
  | 0, _, _, _, _, _, _, _, _, _, hf => by cases hf
  | n + 1, _, _, _, _, _, _, _, _, _, hf => t_Tables_spendAlone_42b rec31 hrec31 (f_Tables_spendAlone_42 rec31 n) (t_Tables_spendAlone_42 rec31 hrec31 n) _ _ _ _ _ _ _ _ _ hf
def f_Tables_spendAlone_31b (rec31 : Nat → Int32 → Int32 → Int32 → Int32 → mH → Option mH) (b0 : Nat) (b1 : Int32) (b3 : Int32) (b4 : Int32) (b5 : Int32) (h : mH) : Option mH :=
  if b5 < 0 then
    some h
  else
    f_Tables_spendAlone_42 rec31 FU b0 b1 b3 b4 b5 (0 : Int64) b3 h
set_option maxRecDepth 20000 in
theorem t_Tables_spendAlone_31b {sc : Nat × (Nat → Int32)} (rec31 : Nat → Int32 → Int32 → Int32 → Int32 → mH → Option mH) (hrec31 : ∀ (b0 : Nat) (b1 : Int32) (b3 : Int32) (b4 : Int32) (b5 : Int32) (h : mH) (h' : mH), rec31 b0 b1 b3 b4 b5 h = some h' → G sc y_Tables_spendAlone prog_8_method_5_code 9 none 0 0 31 [(0, .ref b0), (1, .int b1), (3, .int b3), (4, .int b4), (5, .int b5)] [] h none h') (b0 : Nat) (b1 : Int32) (b3 : Int32) (b4 : Int32) (b5 : Int32) (h : mH) (h' : mH) (hf : f_Tables_spendAlone_31b rec31 b0 b1 b3 b4 b5 h = some h') : G sc y_Tables_spendAlone prog_8_method_5_code 9 none 0 0 31 [(0, .ref b0), (1, .int b1), (3, .int b3), (4, .int b4), (5, .int b5)] [] h none h' := by
  unfold f_Tables_spendAlone_31b at hf
  refine g_iload (pc := 31) 4 dd_Tables_spendAlone_0.2.2.2.2.2.2.2.2.2.2.2.2.2.2.2.2.2.2.2.2.2.2.2 rfl ?_
  refine g_iflt (pc := 33) 102 dd_Tables_spendAlone_33.1 (by decide) (fun c13 => ?_) (fun c13 => ?_)
  · replace hf := (if_pos c13).symm.trans hf
    obtain rfl := ret1 hf
    exact g_vret (pc := 102) rfl dd_Tables_spendAlone_76.2.2.2.2.2.2.2.2.2.2.2.2.2
  · replace hf := (if_neg c13).symm.trans hf
    refine g_lconst (pc := 36) (0 : Int64) dd_Tables_spendAlone_33.2.1 (by decide) ?_
    refine g_lstore (pc := 37) [(6, .long (0 : Int64)), (0, .ref b0), (1, .int b1), (3, .int b3), (4, .int b4), (5, .int b5)] dd_Tables_spendAlone_33.2.2.1 (Nat.le_of_ble_eq_true rfl) rfl ?_
    refine g_iload_n (pc := 39) 3 dd_Tables_spendAlone_33.2.2.2.1 rfl rfl ?_
    refine g_istore (pc := 40) [(8, .int b3), (6, .long (0 : Int64)), (0, .ref b0), (1, .int b1), (3, .int b3), (4, .int b4), (5, .int b5)] dd_Tables_spendAlone_33.2.2.2.2.1 (Nat.le_of_ble_eq_true rfl) rfl ?_
    refine g_lv [2, 3, 4, 5, 6, 1, 0] rfl ?_
    exact t_Tables_spendAlone_42 rec31 hrec31 FU _ _ _ _ _ _ _ _ _  hf
def f_Tables_spendAlone_31  : Nat → Nat → Int32 → Int32 → Int32 → Int32 → mH → Option mH
  | 0 => fun _ _ _ _ _ _ => none
  | n + 1 => f_Tables_spendAlone_31b  (f_Tables_spendAlone_31  n)
theorem t_Tables_spendAlone_31 {sc : Nat × (Nat → Int32)}  : ∀ (n : Nat) (b0 : Nat) (b1 : Int32) (b3 : Int32) (b4 : Int32) (b5 : Int32) (h : mH) (h' : mH) (hf : f_Tables_spendAlone_31  n b0 b1 b3 b4 b5 h = some h'), G sc y_Tables_spendAlone prog_8_method_5_code 9 none 0 0 31 [(0, .ref b0), (1, .int b1), (3, .int b3), (4, .int b4), (5, .int b5)] [] h none h'
  | 0, _, _, _, _, _, _, _, hf => by cases hf
  | n + 1, _, _, _, _, _, _, _, hf => t_Tables_spendAlone_31b  (f_Tables_spendAlone_31  n) (t_Tables_spendAlone_31  n) _ _ _ _ _ _ _ hf
def f_Tables_spendAlone_0  (a0 : Nat) (a1 : Int32) (a2 : Int32) (h : mH) : Option mH :=
  bd1 (gR h a0 7 1) fun x1 =>
  bd1 (aI h 0 x1 ((a1 * (5 : Int32)) + a2)) fun x3 =>
  bd1 (gR h a0 7 2) fun x5 =>
  bd1 (aI h 0 x5 ((a1 * (5 : Int32)) + a2)) fun x7 =>
  bd1 (gR h a0 7 5) fun x9 =>
  bd1 (aI h 0 x9 a1) fun x11 =>
  f_Tables_spendAlone_31  FU a0 a1 x3 x7 x11 h
set_option maxRecDepth 20000 in
theorem t_Tables_spendAlone_0 {sc : Nat × (Nat → Int32)}  (a0 : Nat) (a1 : Int32) (a2 : Int32) (h : mH) (h' : mH) (hf : f_Tables_spendAlone_0  a0 a1 a2 h = some h') : G sc y_Tables_spendAlone prog_8_method_5_code 9 none 0 0 0 [(0, .ref a0), (1, .int a1), (2, .int a2)] [] h none h' := by
  unfold f_Tables_spendAlone_0 at hf
  refine g_aload_n (pc := 0) 0 dd_Tables_spendAlone_0.1 rfl rfl ?_
  obtain ⟨x1, e2, hf⟩ := bd1_e hf
  refine g_get (pc := 1) (ci := 7) (kk := 1) dd_Tables_spendAlone_0.2.1 rfl in_Tables (by decide) wd_237 (gR_spec e2) ?_
  refine g_iload_n (pc := 4) 1 dd_Tables_spendAlone_0.2.2.1 rfl rfl ?_
  refine g_iconst (pc := 5) (5 : Int32) dd_Tables_spendAlone_0.2.2.2.1 (by decide) ?_
  refine g_imul (pc := 6) dd_Tables_spendAlone_0.2.2.2.2.1 ?_
  refine g_iload_n (pc := 7) 2 dd_Tables_spendAlone_0.2.2.2.2.2.1 rfl rfl ?_
  refine g_iadd (pc := 8) dd_Tables_spendAlone_0.2.2.2.2.2.2.1 ?_
  obtain ⟨x3, e4, hf⟩ := bd1_e hf
  refine g_iald (pc := 9) dd_Tables_spendAlone_0.2.2.2.2.2.2.2.1 e4 ?_
  refine g_istore_n (pc := 10) [(3, .int x3), (0, .ref a0), (1, .int a1), (2, .int a2)] dd_Tables_spendAlone_0.2.2.2.2.2.2.2.2.1 rfl (Nat.le_of_ble_eq_true rfl) rfl ?_
  refine g_aload_n (pc := 11) 1 dd_Tables_spendAlone_0.2.2.2.2.2.2.2.2.2.1 rfl rfl ?_
  obtain ⟨x5, e6, hf⟩ := bd1_e hf
  refine g_get (pc := 12) (ci := 7) (kk := 2) dd_Tables_spendAlone_0.2.2.2.2.2.2.2.2.2.2.1 rfl in_Tables (by decide) wd_238 (gR_spec e6) ?_
  refine g_iload_n (pc := 15) 2 dd_Tables_spendAlone_0.2.2.2.2.2.2.2.2.2.2.2.1 rfl rfl ?_
  refine g_iconst (pc := 16) (5 : Int32) dd_Tables_spendAlone_0.2.2.2.2.2.2.2.2.2.2.2.2.1 (by decide) ?_
  refine g_imul (pc := 17) dd_Tables_spendAlone_0.2.2.2.2.2.2.2.2.2.2.2.2.2.1 ?_
  refine g_iload_n (pc := 18) 3 dd_Tables_spendAlone_0.2.2.2.2.2.2.2.2.2.2.2.2.2.2.1 rfl rfl ?_
  refine g_iadd (pc := 19) dd_Tables_spendAlone_0.2.2.2.2.2.2.2.2.2.2.2.2.2.2.2.1 ?_
  obtain ⟨x7, e8, hf⟩ := bd1_e hf
  refine g_iald (pc := 20) dd_Tables_spendAlone_0.2.2.2.2.2.2.2.2.2.2.2.2.2.2.2.2.1 e8 ?_
  refine g_istore (pc := 21) [(4, .int x7), (3, .int x3), (0, .ref a0), (1, .int a1), (2, .int a2)] dd_Tables_spendAlone_0.2.2.2.2.2.2.2.2.2.2.2.2.2.2.2.2.2.1 (Nat.le_of_ble_eq_true rfl) rfl ?_
  refine g_aload_n (pc := 23) 2 dd_Tables_spendAlone_0.2.2.2.2.2.2.2.2.2.2.2.2.2.2.2.2.2.2.1 rfl rfl ?_
  obtain ⟨x9, e10, hf⟩ := bd1_e hf
  refine g_get (pc := 24) (ci := 7) (kk := 5) dd_Tables_spendAlone_0.2.2.2.2.2.2.2.2.2.2.2.2.2.2.2.2.2.2.2.1 rfl in_Tables (by decide) wd_241 (gR_spec e10) ?_
  refine g_iload_n (pc := 27) 3 dd_Tables_spendAlone_0.2.2.2.2.2.2.2.2.2.2.2.2.2.2.2.2.2.2.2.2.1 rfl rfl ?_
  obtain ⟨x11, e12, hf⟩ := bd1_e hf
  refine g_iald (pc := 28) dd_Tables_spendAlone_0.2.2.2.2.2.2.2.2.2.2.2.2.2.2.2.2.2.2.2.2.2.1 e12 ?_
  refine g_istore (pc := 29) [(5, .int x11), (4, .int x7), (3, .int x3), (0, .ref a0), (1, .int a1), (2, .int a2)] dd_Tables_spendAlone_0.2.2.2.2.2.2.2.2.2.2.2.2.2.2.2.2.2.2.2.2.2.2.1 (Nat.le_of_ble_eq_true rfl) rfl ?_
  refine g_lv [3, 4, 2, 1, 0] rfl ?_
  exact t_Tables_spendAlone_31  FU _ _ _ _ _ _ _  hf
def f_Tables_spendAlone (a0 : Nat) (a1 : Int32) (a2 : Int32) (h : mH) : Option mH := f_Tables_spendAlone_0 a0 a1 a2 h
theorem c_Tables_spendAlone {sc : Nat × (Nat → Int32)} {a0 : Nat} {a1 : Int32} {a2 : Int32} {h : mH} {h' : mH} (hf : f_Tables_spendAlone a0 a1 a2 h = some h') : MM sc y_Tables_spendAlone prog_8_method_5_code 9 none 0 0 [.ref a0, .int a1, .int a2] h none h' :=
  mm_of_G si_pn_Tables (Nat.le_of_ble_eq_true rfl) (t_Tables_spendAlone_0 _ _ _ _ _ hf)
/-! Tables stateOf (III)I -/
set_option maxRecDepth 100000 in
theorem dd_Tables_stateOf_0 : (decode prog_8_method_11_code 0 = .ok (.iload_n 0, 1)) ∧ (decode prog_8_method_11_code 1 = .ok (.bipush 6, 2)) ∧ (decode prog_8_method_11_code 3 = .ok (.imul, 1)) ∧ (decode prog_8_method_11_code 4 = .ok (.iload_n 1, 1)) ∧ (decode prog_8_method_11_code 5 = .ok (.iadd, 1)) ∧ (decode prog_8_method_11_code 6 = .ok (.bipush 6, 2)) ∧ (decode prog_8_method_11_code 8 = .ok (.imul, 1)) ∧ (decode prog_8_method_11_code 9 = .ok (.iload_n 2, 1)) ∧ (decode prog_8_method_11_code 10 = .ok (.iadd, 1)) ∧ (decode prog_8_method_11_code 11 = .ok (.ireturn, 1)) := by
  have h : List.drop 0 prog_8_method_11_code.data.toList = 0x1a :: _ := rfl
  refine ⟨zq_k_n 26 h rfl (zq_o_26 _), ?_⟩
  replace h := zq_nx1 (q := 1) h rfl
  refine ⟨zq_k_s1 16 (fun z => .bipush z) 6 h rfl (zq_o_16 _) (by decide +kernel), ?_⟩
  replace h := zq_nx2 (q := 3) h rfl
  refine ⟨zq_k_n 104 h rfl (zq_o_104 _), ?_⟩
  replace h := zq_nx1 (q := 4) h rfl
  refine ⟨zq_k_n 27 h rfl (zq_o_27 _), ?_⟩
  replace h := zq_nx1 (q := 5) h rfl
  refine ⟨zq_k_n 96 h rfl (zq_o_96 _), ?_⟩
  replace h := zq_nx1 (q := 6) h rfl
  refine ⟨zq_k_s1 16 (fun z => .bipush z) 6 h rfl (zq_o_16 _) (by decide +kernel), ?_⟩
  replace h := zq_nx2 (q := 8) h rfl
  refine ⟨zq_k_n 104 h rfl (zq_o_104 _), ?_⟩
  replace h := zq_nx1 (q := 9) h rfl
  refine ⟨zq_k_n 28 h rfl (zq_o_28 _), ?_⟩
  replace h := zq_nx1 (q := 10) h rfl
  refine ⟨zq_k_n 96 h rfl (zq_o_96 _), ?_⟩
  replace h := zq_nx1 (q := 11) h rfl
  exact zq_k_n 172 h rfl (zq_o_172 _)
def f_Tables_stateOf_0  (a0 : Int32) (a1 : Int32) (a2 : Int32) (h : mH) : Option (Int32 × mH) :=
  some ((((a0 * (6 : Int32)) + a1) * (6 : Int32)) + a2, h)
set_option maxRecDepth 20000 in
theorem t_Tables_stateOf_0 {sc : Nat × (Nat → Int32)}  (a0 : Int32) (a1 : Int32) (a2 : Int32) (h : mH) (r : Int32) (h' : mH) (hf : f_Tables_stateOf_0  a0 a1 a2 h = some (r, h')) : G sc y_Tables_stateOf prog_8_method_11_code 3 (some .int) 0 0 0 [(0, .int a0), (1, .int a1), (2, .int a2)] [] h (some (.int r)) h' := by
  unfold f_Tables_stateOf_0 at hf
  refine g_iload_n (pc := 0) 0 dd_Tables_stateOf_0.1 rfl rfl ?_
  refine g_bipush (pc := 1) (6 : Int32) dd_Tables_stateOf_0.2.1 (by decide) ?_
  refine g_imul (pc := 3) dd_Tables_stateOf_0.2.2.1 ?_
  refine g_iload_n (pc := 4) 1 dd_Tables_stateOf_0.2.2.2.1 rfl rfl ?_
  refine g_iadd (pc := 5) dd_Tables_stateOf_0.2.2.2.2.1 ?_
  refine g_bipush (pc := 6) (6 : Int32) dd_Tables_stateOf_0.2.2.2.2.2.1 (by decide) ?_
  refine g_imul (pc := 8) dd_Tables_stateOf_0.2.2.2.2.2.2.1 ?_
  refine g_iload_n (pc := 9) 2 dd_Tables_stateOf_0.2.2.2.2.2.2.2.1 rfl rfl ?_
  refine g_iadd (pc := 10) dd_Tables_stateOf_0.2.2.2.2.2.2.2.2.1 ?_
  obtain ⟨rfl, rfl⟩ := ret2 hf
  exact g_iret (pc := 11) rfl dd_Tables_stateOf_0.2.2.2.2.2.2.2.2.2
def f_Tables_stateOf (a0 : Int32) (a1 : Int32) (a2 : Int32) (h : mH) : Option (Int32 × mH) := f_Tables_stateOf_0 a0 a1 a2 h
theorem c_Tables_stateOf {sc : Nat × (Nat → Int32)} {a0 : Int32} {a1 : Int32} {a2 : Int32} {h : mH} {r : Int32} {h' : mH} (hf : f_Tables_stateOf a0 a1 a2 h = some (r, h')) : MM sc y_Tables_stateOf prog_8_method_11_code 3 (some .int) 0 0 [.int a0, .int a1, .int a2] h (some (.int r)) h' :=
  mm_of_G si_pn_Tables (Nat.le_of_ble_eq_true rfl) (t_Tables_stateOf_0 _ _ _ _ _ _ hf)
/-! Tables joinAll ()V -/
set_option maxRecDepth 100000 in
theorem dd_Tables_joinAll_0 : (decode prog_8_method_6_code 0 = .ok (.iconst 0, 1)) ∧ (decode prog_8_method_6_code 1 = .ok (.istore_n 1, 1)) ∧ (decode prog_8_method_6_code 2 = .ok (.iload_n 1, 1)) ∧ (decode prog_8_method_6_code 3 = .ok (.aload_n 0, 1)) ∧ (decode prog_8_method_6_code 4 = .ok (.getfield 24, 3)) ∧ (decode prog_8_method_6_code 7 = .ok (.iconst 0, 1)) ∧ (decode prog_8_method_6_code 8 = .ok (.iaload, 1)) ∧ (decode prog_8_method_6_code 9 = .ok (.if_icmp .gt 82, 3)) ∧ (decode prog_8_method_6_code 12 = .ok (.iconst 0, 1)) ∧ (decode prog_8_method_6_code 13 = .ok (.istore_n 2, 1)) ∧ (decode prog_8_method_6_code 14 = .ok (.iload_n 2, 1)) ∧ (decode prog_8_method_6_code 15 = .ok (.aload_n 0, 1)) ∧ (decode prog_8_method_6_code 16 = .ok (.getfield 24, 3)) ∧ (decode prog_8_method_6_code 19 = .ok (.iconst 1, 1)) ∧ (decode prog_8_method_6_code 20 = .ok (.iaload, 1)) ∧ (decode prog_8_method_6_code 21 = .ok (.if_icmp .gt 64, 3)) ∧ (decode prog_8_method_6_code 24 = .ok (.iconst 0, 1)) ∧ (decode prog_8_method_6_code 25 = .ok (.istore_n 3, 1)) ∧ (decode prog_8_method_6_code 26 = .ok (.iload_n 3, 1)) ∧ (decode prog_8_method_6_code 27 = .ok (.aload_n 0, 1)) ∧ (decode prog_8_method_6_code 28 = .ok (.getfield 24, 3)) ∧ (decode prog_8_method_6_code 31 = .ok (.iconst 2, 1)) ∧ (decode prog_8_method_6_code 32 = .ok (.iaload, 1)) ∧ (decode prog_8_method_6_code 33 = .ok (.if_icmp .gt 46, 3)) := by
  have h : List.drop 0 prog_8_method_6_code.data.toList = 0x03 :: _ := rfl
  refine ⟨zq_k_n 3 h rfl (zq_o_3 _), ?_⟩
  replace h := zq_nx1 (q := 1) h rfl
  refine ⟨zq_k_n 60 h rfl (zq_o_60 _), ?_⟩
  replace h := zq_nx1 (q := 2) h rfl
  refine ⟨zq_k_n 27 h rfl (zq_o_27 _), ?_⟩
  replace h := zq_nx1 (q := 3) h rfl
  refine ⟨zq_k_n 42 h rfl (zq_o_42 _), ?_⟩
  replace h := zq_nx1 (q := 4) h rfl
  refine ⟨zq_k_u2 180 (fun z => .getfield z) 24 h rfl (zq_o_180 _) (by decide +kernel), ?_⟩
  replace h := zq_nx3 (q := 7) h rfl
  refine ⟨zq_k_n 3 h rfl (zq_o_3 _), ?_⟩
  replace h := zq_nx1 (q := 8) h rfl
  refine ⟨zq_k_n 46 h rfl (zq_o_46 _), ?_⟩
  replace h := zq_nx1 (q := 9) h rfl
  refine ⟨zq_k_s2 163 (fun z => .if_icmp .gt z) 82 h rfl (zq_o_163 _) (by decide +kernel), ?_⟩
  replace h := zq_nx3 (q := 12) h rfl
  refine ⟨zq_k_n 3 h rfl (zq_o_3 _), ?_⟩
  replace h := zq_nx1 (q := 13) h rfl
  refine ⟨zq_k_n 61 h rfl (zq_o_61 _), ?_⟩
  replace h := zq_nx1 (q := 14) h rfl
  refine ⟨zq_k_n 28 h rfl (zq_o_28 _), ?_⟩
  replace h := zq_nx1 (q := 15) h rfl
  refine ⟨zq_k_n 42 h rfl (zq_o_42 _), ?_⟩
  replace h := zq_nx1 (q := 16) h rfl
  refine ⟨zq_k_u2 180 (fun z => .getfield z) 24 h rfl (zq_o_180 _) (by decide +kernel), ?_⟩
  replace h := zq_nx3 (q := 19) h rfl
  refine ⟨zq_k_n 4 h rfl (zq_o_4 _), ?_⟩
  replace h := zq_nx1 (q := 20) h rfl
  refine ⟨zq_k_n 46 h rfl (zq_o_46 _), ?_⟩
  replace h := zq_nx1 (q := 21) h rfl
  refine ⟨zq_k_s2 163 (fun z => .if_icmp .gt z) 64 h rfl (zq_o_163 _) (by decide +kernel), ?_⟩
  replace h := zq_nx3 (q := 24) h rfl
  refine ⟨zq_k_n 3 h rfl (zq_o_3 _), ?_⟩
  replace h := zq_nx1 (q := 25) h rfl
  refine ⟨zq_k_n 62 h rfl (zq_o_62 _), ?_⟩
  replace h := zq_nx1 (q := 26) h rfl
  refine ⟨zq_k_n 29 h rfl (zq_o_29 _), ?_⟩
  replace h := zq_nx1 (q := 27) h rfl
  refine ⟨zq_k_n 42 h rfl (zq_o_42 _), ?_⟩
  replace h := zq_nx1 (q := 28) h rfl
  refine ⟨zq_k_u2 180 (fun z => .getfield z) 24 h rfl (zq_o_180 _) (by decide +kernel), ?_⟩
  replace h := zq_nx3 (q := 31) h rfl
  refine ⟨zq_k_n 5 h rfl (zq_o_5 _), ?_⟩
  replace h := zq_nx1 (q := 32) h rfl
  refine ⟨zq_k_n 46 h rfl (zq_o_46 _), ?_⟩
  replace h := zq_nx1 (q := 33) h rfl
  exact zq_k_s2 163 (fun z => .if_icmp .gt z) 46 h rfl (zq_o_163 _) (by decide +kernel)
set_option maxRecDepth 100000 in
theorem dd_Tables_joinAll_36 : (decode prog_8_method_6_code 36 = .ok (.aload_n 0, 1)) ∧ (decode prog_8_method_6_code 37 = .ok (.getfield 31, 3)) ∧ (decode prog_8_method_6_code 40 = .ok (.iload_n 1, 1)) ∧ (decode prog_8_method_6_code 41 = .ok (.iload_n 2, 1)) ∧ (decode prog_8_method_6_code 42 = .ok (.iload_n 3, 1)) ∧ (decode prog_8_method_6_code 43 = .ok (.invokestatic 93, 3)) ∧ (decode prog_8_method_6_code 46 = .ok (.aload_n 0, 1)) ∧ (decode prog_8_method_6_code 47 = .ok (.getfield 27, 3)) ∧ (decode prog_8_method_6_code 50 = .ok (.iload_n 1, 1)) ∧ (decode prog_8_method_6_code 51 = .ok (.laload, 1)) ∧ (decode prog_8_method_6_code 52 = .ok (.aload_n 0, 1)) ∧ (decode prog_8_method_6_code 53 = .ok (.getfield 27, 3)) ∧ (decode prog_8_method_6_code 56 = .ok (.bipush 6, 2)) ∧ (decode prog_8_method_6_code 58 = .ok (.iload_n 2, 1)) ∧ (decode prog_8_method_6_code 59 = .ok (.iadd, 1)) ∧ (decode prog_8_method_6_code 60 = .ok (.laload, 1)) ∧ (decode prog_8_method_6_code 61 = .ok (.lmul, 1)) ∧ (decode prog_8_method_6_code 62 = .ok (.aload_n 0, 1)) ∧ (decode prog_8_method_6_code 63 = .ok (.getfield 27, 3)) ∧ (decode prog_8_method_6_code 66 = .ok (.bipush 12, 2)) ∧ (decode prog_8_method_6_code 68 = .ok (.iload_n 3, 1)) ∧ (decode prog_8_method_6_code 69 = .ok (.iadd, 1)) ∧ (decode prog_8_method_6_code 70 = .ok (.laload, 1)) ∧ (decode prog_8_method_6_code 71 = .ok (.lmul, 1)) := by
  have h : List.drop 36 prog_8_method_6_code.data.toList = 0x2a :: _ := rfl
  refine ⟨zq_k_n 42 h rfl (zq_o_42 _), ?_⟩
  replace h := zq_nx1 (q := 37) h rfl
  refine ⟨zq_k_u2 180 (fun z => .getfield z) 31 h rfl (zq_o_180 _) (by decide +kernel), ?_⟩
  replace h := zq_nx3 (q := 40) h rfl
  refine ⟨zq_k_n 27 h rfl (zq_o_27 _), ?_⟩
  replace h := zq_nx1 (q := 41) h rfl
  refine ⟨zq_k_n 28 h rfl (zq_o_28 _), ?_⟩
  replace h := zq_nx1 (q := 42) h rfl
  refine ⟨zq_k_n 29 h rfl (zq_o_29 _), ?_⟩
  replace h := zq_nx1 (q := 43) h rfl
  refine ⟨zq_k_u2 184 (fun z => .invokestatic z) 93 h rfl (zq_o_184 _) (by decide +kernel), ?_⟩
  replace h := zq_nx3 (q := 46) h rfl
  refine ⟨zq_k_n 42 h rfl (zq_o_42 _), ?_⟩
  replace h := zq_nx1 (q := 47) h rfl
  refine ⟨zq_k_u2 180 (fun z => .getfield z) 27 h rfl (zq_o_180 _) (by decide +kernel), ?_⟩
  replace h := zq_nx3 (q := 50) h rfl
  refine ⟨zq_k_n 27 h rfl (zq_o_27 _), ?_⟩
  replace h := zq_nx1 (q := 51) h rfl
  refine ⟨zq_k_n 47 h rfl (zq_o_47 _), ?_⟩
  replace h := zq_nx1 (q := 52) h rfl
  refine ⟨zq_k_n 42 h rfl (zq_o_42 _), ?_⟩
  replace h := zq_nx1 (q := 53) h rfl
  refine ⟨zq_k_u2 180 (fun z => .getfield z) 27 h rfl (zq_o_180 _) (by decide +kernel), ?_⟩
  replace h := zq_nx3 (q := 56) h rfl
  refine ⟨zq_k_s1 16 (fun z => .bipush z) 6 h rfl (zq_o_16 _) (by decide +kernel), ?_⟩
  replace h := zq_nx2 (q := 58) h rfl
  refine ⟨zq_k_n 28 h rfl (zq_o_28 _), ?_⟩
  replace h := zq_nx1 (q := 59) h rfl
  refine ⟨zq_k_n 96 h rfl (zq_o_96 _), ?_⟩
  replace h := zq_nx1 (q := 60) h rfl
  refine ⟨zq_k_n 47 h rfl (zq_o_47 _), ?_⟩
  replace h := zq_nx1 (q := 61) h rfl
  refine ⟨zq_k_n 105 h rfl (zq_o_105 _), ?_⟩
  replace h := zq_nx1 (q := 62) h rfl
  refine ⟨zq_k_n 42 h rfl (zq_o_42 _), ?_⟩
  replace h := zq_nx1 (q := 63) h rfl
  refine ⟨zq_k_u2 180 (fun z => .getfield z) 27 h rfl (zq_o_180 _) (by decide +kernel), ?_⟩
  replace h := zq_nx3 (q := 66) h rfl
  refine ⟨zq_k_s1 16 (fun z => .bipush z) 12 h rfl (zq_o_16 _) (by decide +kernel), ?_⟩
  replace h := zq_nx2 (q := 68) h rfl
  refine ⟨zq_k_n 29 h rfl (zq_o_29 _), ?_⟩
  replace h := zq_nx1 (q := 69) h rfl
  refine ⟨zq_k_n 96 h rfl (zq_o_96 _), ?_⟩
  replace h := zq_nx1 (q := 70) h rfl
  refine ⟨zq_k_n 47 h rfl (zq_o_47 _), ?_⟩
  replace h := zq_nx1 (q := 71) h rfl
  exact zq_k_n 105 h rfl (zq_o_105 _)
set_option maxRecDepth 100000 in
theorem dd_Tables_joinAll_72 : (decode prog_8_method_6_code 72 = .ok (.lastore, 1)) ∧ (decode prog_8_method_6_code 73 = .ok (.iinc 3 1, 3)) ∧ (decode prog_8_method_6_code 76 = .ok (.goto (-50), 3)) ∧ (decode prog_8_method_6_code 79 = .ok (.iinc 2 1, 3)) ∧ (decode prog_8_method_6_code 82 = .ok (.goto (-68), 3)) ∧ (decode prog_8_method_6_code 85 = .ok (.iinc 1 1, 3)) ∧ (decode prog_8_method_6_code 88 = .ok (.goto (-86), 3)) ∧ (decode prog_8_method_6_code 91 = .ok (.return_, 1)) := by
  have h : List.drop 72 prog_8_method_6_code.data.toList = 0x50 :: _ := rfl
  refine ⟨zq_k_n 80 h rfl (zq_o_80 _), ?_⟩
  replace h := zq_nx1 (q := 73) h rfl
  refine ⟨zq_k_iinc 3 1 h rfl (zq_o_132 _) (by decide +kernel) (by decide +kernel), ?_⟩
  replace h := zq_nx3 (q := 76) h rfl
  refine ⟨zq_k_s2 167 (fun z => .goto z) (-50) h rfl (zq_o_167 _) (by decide +kernel), ?_⟩
  replace h := zq_nx3 (q := 79) h rfl
  refine ⟨zq_k_iinc 2 1 h rfl (zq_o_132 _) (by decide +kernel) (by decide +kernel), ?_⟩
  replace h := zq_nx3 (q := 82) h rfl
  refine ⟨zq_k_s2 167 (fun z => .goto z) (-68) h rfl (zq_o_167 _) (by decide +kernel), ?_⟩
  replace h := zq_nx3 (q := 85) h rfl
  refine ⟨zq_k_iinc 1 1 h rfl (zq_o_132 _) (by decide +kernel) (by decide +kernel), ?_⟩
  replace h := zq_nx3 (q := 88) h rfl
  refine ⟨zq_k_s2 167 (fun z => .goto z) (-86) h rfl (zq_o_167 _) (by decide +kernel), ?_⟩
  replace h := zq_nx3 (q := 91) h rfl
  exact zq_k_n 177 h rfl (zq_o_177 _)
def f_Tables_joinAll_26b (rec2 : Nat → Int32 → mH → Option mH) (rec14 : Nat → Int32 → Int32 → mH → Option mH) (rec26 : Nat → Int32 → Int32 → Int32 → mH → Option mH) (b0 : Nat) (b1 : Int32) (b2 : Int32) (b3 : Int32) (h : mH) : Option mH :=
  bd1 (gR h b0 7 5) fun x11 =>
  bd1 (aI h 0 x11 (2 : Int32)) fun x13 =>
  if x13 < b3 then
    rec14 b0 b1 (b2 + (1 : Int32)) h
  else
    bd1 (gR h b0 7 7) fun x15 =>
    bd2 (f_Tables_stateOf b1 b2 b3 h) fun x19 h17 =>
    bd1 (gR h17 b0 7 6) fun x20 =>
    bd1 (aL h17 x20 b1) fun x22 =>
    bd1 (gR h17 b0 7 6) fun x24 =>
    bd1 (aL h17 x24 ((6 : Int32) + b2)) fun x26 =>
    bd1 (gR h17 b0 7 6) fun x28 =>
    bd1 (aL h17 x28 ((12 : Int32) + b3)) fun x30 =>
    bd1 (sL h17 x15 x19 ((x22 * x26) * x30)) fun h32 =>
    rec26 b0 b1 b2 (b3 + (1 : Int32)) h32
set_option maxRecDepth 20000 in
theorem t_Tables_joinAll_26b {sc : Nat × (Nat → Int32)} (rec2 : Nat → Int32 → mH → Option mH) (hrec2 : ∀ (b0 : Nat) (b1 : Int32) (h : mH) (h' : mH), rec2 b0 b1 h = some h' → G sc y_Tables_joinAll prog_8_method_6_code 4 none 1 22 2 [(0, .ref b0), (1, .int b1)] [] h none h') (rec14 : Nat → Int32 → Int32 → mH → Option mH) (hrec14 : ∀ (b0 : Nat) (b1 : Int32) (b2 : Int32) (h : mH) (h' : mH), rec14 b0 b1 b2 h = some h' → G sc y_Tables_joinAll prog_8_method_6_code 4 none 1 22 14 [(0, .ref b0), (1, .int b1), (2, .int b2)] [] h none h') (rec26 : Nat → Int32 → Int32 → Int32 → mH → Option mH) (hrec26 : ∀ (b0 : Nat) (b1 : Int32) (b2 : Int32) (b3 : Int32) (h : mH) (h' : mH), rec26 b0 b1 b2 b3 h = some h' → G sc y_Tables_joinAll prog_8_method_6_code 4 none 1 22 26 [(0, .ref b0), (1, .int b1), (2, .int b2), (3, .int b3)] [] h none h') (b0 : Nat) (b1 : Int32) (b2 : Int32) (b3 : Int32) (h : mH) (h' : mH) (hf : f_Tables_joinAll_26b rec2 rec14 rec26 b0 b1 b2 b3 h = some h') : G sc y_Tables_joinAll prog_8_method_6_code 4 none 1 22 26 [(0, .ref b0), (1, .int b1), (2, .int b2), (3, .int b3)] [] h none h' := by
  unfold f_Tables_joinAll_26b at hf
  refine g_iload_n (pc := 26) 3 dd_Tables_joinAll_0.2.2.2.2.2.2.2.2.2.2.2.2.2.2.2.2.2.2.1 rfl rfl ?_
  refine g_aload_n (pc := 27) 0 dd_Tables_joinAll_0.2.2.2.2.2.2.2.2.2.2.2.2.2.2.2.2.2.2.2.1 rfl rfl ?_
  obtain ⟨x11, e12, hf⟩ := bd1_e hf
  refine g_get (pc := 28) (ci := 7) (kk := 5) dd_Tables_joinAll_0.2.2.2.2.2.2.2.2.2.2.2.2.2.2.2.2.2.2.2.2.1 rfl in_Tables (by decide) wd_241 (gR_spec e12) ?_
  refine g_iconst (pc := 31) (2 : Int32) dd_Tables_joinAll_0.2.2.2.2.2.2.2.2.2.2.2.2.2.2.2.2.2.2.2.2.2.1 (by decide) ?_
  obtain ⟨x13, e14, hf⟩ := bd1_e hf
  refine g_iald (pc := 32) dd_Tables_joinAll_0.2.2.2.2.2.2.2.2.2.2.2.2.2.2.2.2.2.2.2.2.2.2.1 e14 ?_
  refine g_icmpgt (pc := 33) 79 dd_Tables_joinAll_0.2.2.2.2.2.2.2.2.2.2.2.2.2.2.2.2.2.2.2.2.2.2.2 (by decide) (fun c34 => ?_) (fun c34 => ?_)
  · replace hf := (if_pos c34).symm.trans hf
    refine g_iinc (pc := 79) 2 (b2 + (1 : Int32)) [(2, .int (b2 + (1 : Int32))), (0, .ref b0), (1, .int b1), (3, .int b3)] dd_Tables_joinAll_72.2.2.2.1 rfl rfl (Nat.le_of_ble_eq_true rfl) rfl ?_
    refine g_goto (pc := 82) 14 dd_Tables_joinAll_72.2.2.2.2.1 (by decide) ?_
    refine g_lv [1, 2, 0] rfl ?_
    exact hrec14 _ _ _ _ _  hf
  · replace hf := (if_neg c34).symm.trans hf
    refine g_aload_n (pc := 36) 0 dd_Tables_joinAll_36.1 rfl rfl ?_
    obtain ⟨x15, e16, hf⟩ := bd1_e hf
    refine g_get (pc := 37) (ci := 7) (kk := 7) dd_Tables_joinAll_36.2.1 rfl in_Tables (by decide) wd_243 (gR_spec e16) ?_
    refine g_iload_n (pc := 40) 1 dd_Tables_joinAll_36.2.2.1 rfl rfl ?_
    refine g_iload_n (pc := 41) 2 dd_Tables_joinAll_36.2.2.2.1 rfl rfl ?_
    refine g_iload_n (pc := 42) 3 dd_Tables_joinAll_36.2.2.2.2.1 rfl rfl ?_
    obtain ⟨x19, h17, e18, hf⟩ := bd2_e hf
    refine g_callS (pc := 43) [.int b1, .int b2, .int b3] (site_of si_Tables_stateOf (by decide) (by decide)) wd_808 wd_809 dd_Tables_joinAll_36.2.2.2.2.2.1 (Nat.le_of_ble_eq_true rfl) (fun z => absurd z si_na_Tables_stateOf) (fun z => absurd z si_na_Tables_stateOf) (fun z => absurd z si_na_Tables_stateOf) (c_Tables_stateOf e18) rfl ?_
    refine g_st [.int x19, .ref x15] rfl ?_
    refine g_aload_n (pc := 46) 0 dd_Tables_joinAll_36.2.2.2.2.2.2.1 rfl rfl ?_
    obtain ⟨x20, e21, hf⟩ := bd1_e hf
    refine g_get (pc := 47) (ci := 7) (kk := 6) dd_Tables_joinAll_36.2.2.2.2.2.2.2.1 rfl in_Tables (by decide) wd_242 (gR_spec e21) ?_
    refine g_iload_n (pc := 50) 1 dd_Tables_joinAll_36.2.2.2.2.2.2.2.2.1 rfl rfl ?_
    obtain ⟨x22, e23, hf⟩ := bd1_e hf
    refine g_lald (pc := 51) dd_Tables_joinAll_36.2.2.2.2.2.2.2.2.2.1 e23 ?_
    refine g_aload_n (pc := 52) 0 dd_Tables_joinAll_36.2.2.2.2.2.2.2.2.2.2.1 rfl rfl ?_
    obtain ⟨x24, e25, hf⟩ := bd1_e hf
    refine g_get (pc := 53) (ci := 7) (kk := 6) dd_Tables_joinAll_36.2.2.2.2.2.2.2.2.2.2.2.1 rfl in_Tables (by decide) wd_242 (gR_spec e25) ?_
    refine g_bipush (pc := 56) (6 : Int32) dd_Tables_joinAll_36.2.2.2.2.2.2.2.2.2.2.2.2.1 (by decide) ?_
    refine g_iload_n (pc := 58) 2 dd_Tables_joinAll_36.2.2.2.2.2.2.2.2.2.2.2.2.2.1 rfl rfl ?_
    refine g_iadd (pc := 59) dd_Tables_joinAll_36.2.2.2.2.2.2.2.2.2.2.2.2.2.2.1 ?_
    obtain ⟨x26, e27, hf⟩ := bd1_e hf
    refine g_lald (pc := 60) dd_Tables_joinAll_36.2.2.2.2.2.2.2.2.2.2.2.2.2.2.2.1 e27 ?_
    refine g_lmul (pc := 61) dd_Tables_joinAll_36.2.2.2.2.2.2.2.2.2.2.2.2.2.2.2.2.1 ?_
    refine g_aload_n (pc := 62) 0 dd_Tables_joinAll_36.2.2.2.2.2.2.2.2.2.2.2.2.2.2.2.2.2.1 rfl rfl ?_
    obtain ⟨x28, e29, hf⟩ := bd1_e hf
    refine g_get (pc := 63) (ci := 7) (kk := 6) dd_Tables_joinAll_36.2.2.2.2.2.2.2.2.2.2.2.2.2.2.2.2.2.2.1 rfl in_Tables (by decide) wd_242 (gR_spec e29) ?_
    refine g_bipush (pc := 66) (12 : Int32) dd_Tables_joinAll_36.2.2.2.2.2.2.2.2.2.2.2.2.2.2.2.2.2.2.2.1 (by decide) ?_
    refine g_iload_n (pc := 68) 3 dd_Tables_joinAll_36.2.2.2.2.2.2.2.2.2.2.2.2.2.2.2.2.2.2.2.2.1 rfl rfl ?_
    refine g_iadd (pc := 69) dd_Tables_joinAll_36.2.2.2.2.2.2.2.2.2.2.2.2.2.2.2.2.2.2.2.2.2.1 ?_
    obtain ⟨x30, e31, hf⟩ := bd1_e hf
    refine g_lald (pc := 70) dd_Tables_joinAll_36.2.2.2.2.2.2.2.2.2.2.2.2.2.2.2.2.2.2.2.2.2.2.1 e31 ?_
    refine g_lmul (pc := 71) dd_Tables_joinAll_36.2.2.2.2.2.2.2.2.2.2.2.2.2.2.2.2.2.2.2.2.2.2.2 ?_
    obtain ⟨h32, e33, hf⟩ := bd1_e hf
    refine g_last (pc := 72) dd_Tables_joinAll_72.1 e33 ?_
    refine g_iinc (pc := 73) 3 (b3 + (1 : Int32)) [(3, .int (b3 + (1 : Int32))), (0, .ref b0), (1, .int b1), (2, .int b2)] dd_Tables_joinAll_72.2.1 rfl rfl (Nat.le_of_ble_eq_true rfl) rfl ?_
    refine g_goto (pc := 76) 26 dd_Tables_joinAll_72.2.2.1 (by decide) ?_
    refine g_lv [1, 2, 3, 0] rfl ?_
    exact hrec26 _ _ _ _ _ _  hf
def f_Tables_joinAll_26 (rec2 : Nat → Int32 → mH → Option mH) (rec14 : Nat → Int32 → Int32 → mH → Option mH) : Nat → Nat → Int32 → Int32 → Int32 → mH → Option mH
  | 0 => fun _ _ _ _ _ => none
  | n + 1 => f_Tables_joinAll_26b rec2 rec14 (f_Tables_joinAll_26 rec2 rec14 n)
theorem t_Tables_joinAll_26 {sc : Nat × (Nat → Int32)} (rec2 : Nat → Int32 → mH → Option mH) (hrec2 : ∀ (b0 : Nat) (b1 : Int32) (h : mH) (h' : mH), rec2 b0 b1 h = some h' → G sc y_Tables_joinAll prog_8_method_6_code 4 none 1 22 2 [(0, .ref b0), (1, .int b1)] [] h none h') (rec14 : Nat → Int32 → Int32 → mH → Option mH) (hrec14 : ∀ (b0 : Nat) (b1 : Int32) (b2 : Int32) (h : mH) (h' : mH), rec14 b0 b1 b2 h = some h' → G sc y_Tables_joinAll prog_8_method_6_code 4 none 1 22 14 [(0, .ref b0), (1, .int b1), (2, .int b2)] [] h none h') : ∀ (n : Nat) (b0 : Nat) (b1 : Int32) (b2 : Int32) (b3 : Int32) (h : mH) (h' : mH) (hf : f_Tables_joinAll_26 rec2 rec14 n b0 b1 b2 b3 h = some h'), G sc y_Tables_joinAll prog_8_method_6_code 4 none 1 22 26 [(0, .ref b0), (1, .int b1), (2, .int b2), (3, .int b3)] [] h none h'
  | 0, _, _, _, _, _, _, hf => by cases hf
  | n + 1, _, _, _, _, _, _, hf => t_Tables_joinAll_26b rec2 hrec2 rec14 hrec14 (f_Tables_joinAll_26 rec2 rec14 n) (t_Tables_joinAll_26 rec2 hrec2 rec14 hrec14 n) _ _ _ _ _ _ hf
def f_Tables_joinAll_14b (rec2 : Nat → Int32 → mH → Option mH) (rec14 : Nat → Int32 → Int32 → mH → Option mH) (b0 : Nat) (b1 : Int32) (b2 : Int32) (h : mH) : Option mH :=
  bd1 (gR h b0 7 5) fun x6 =>
  bd1 (aI h 0 x6 (1 : Int32)) fun x8 =>
  if x8 < b2 then
    rec2 b0 (b1 + (1 : Int32)) h
  else
    f_Tables_joinAll_26 rec2 rec14 FU b0 b1 b2 (0 : Int32) h
set_option maxRecDepth 20000 in
theorem t_Tables_joinAll_14b {sc : Nat × (Nat → Int32)} (rec2 : Nat → Int32 → mH → Option mH) (hrec2 : ∀ (b0 : Nat) (b1 : Int32) (h : mH) (h' : mH), rec2 b0 b1 h = some h' → G sc y_Tables_joinAll prog_8_method_6_code 4 none 1 22 2 [(0, .ref b0), (1, .int b1)] [] h none h') (rec14 : Nat → Int32 → Int32 → mH → Option mH) (hrec14 : ∀ (b0 : Nat) (b1 : Int32) (b2 : Int32) (h : mH) (h' : mH), rec14 b0 b1 b2 h = some h' → G sc y_Tables_joinAll prog_8_method_6_code 4 none 1 22 14 [(0, .ref b0), (1, .int b1), (2, .int b2)] [] h none h') (b0 : Nat) (b1 : Int32) (b2 : Int32) (h : mH) (h' : mH) (hf : f_Tables_joinAll_14b rec2 rec14 b0 b1 b2 h = some h') : G sc y_Tables_joinAll prog_8_method_6_code 4 none 1 22 14 [(0, .ref b0), (1, .int b1), (2, .int b2)] [] h none h' := by
  unfold f_Tables_joinAll_14b at hf
  refine g_iload_n (pc := 14) 2 dd_Tables_joinAll_0.2.2.2.2.2.2.2.2.2.2.1 rfl rfl ?_
  refine g_aload_n (pc := 15) 0 dd_Tables_joinAll_0.2.2.2.2.2.2.2.2.2.2.2.1 rfl rfl ?_
  obtain ⟨x6, e7, hf⟩ := bd1_e hf
  refine g_get (pc := 16) (ci := 7) (kk := 5) dd_Tables_joinAll_0.2.2.2.2.2.2.2.2.2.2.2.2.1 rfl in_Tables (by decide) wd_241 (gR_spec e7) ?_
  refine g_iconst (pc := 19) (1 : Int32) dd_Tables_joinAll_0.2.2.2.2.2.2.2.2.2.2.2.2.2.1 (by decide) ?_
  obtain ⟨x8, e9, hf⟩ := bd1_e hf
  refine g_iald (pc := 20) dd_Tables_joinAll_0.2.2.2.2.2.2.2.2.2.2.2.2.2.2.1 e9 ?_
  refine g_icmpgt (pc := 21) 85 dd_Tables_joinAll_0.2.2.2.2.2.2.2.2.2.2.2.2.2.2.2.1 (by decide) (fun c10 => ?_) (fun c10 => ?_)
  · replace hf := (if_pos c10).symm.trans hf
    refine g_iinc (pc := 85) 1 (b1 + (1 : Int32)) [(1, .int (b1 + (1 : Int32))), (0, .ref b0), (2, .int b2)] dd_Tables_joinAll_72.2.2.2.2.2.1 rfl rfl (Nat.le_of_ble_eq_true rfl) rfl ?_
    refine g_goto (pc := 88) 2 dd_Tables_joinAll_72.2.2.2.2.2.2.1 (by decide) ?_
    refine g_lv [1, 0] rfl ?_
    exact hrec2 _ _ _ _  hf
  · replace hf := (if_neg c10).symm.trans hf
    refine g_iconst (pc := 24) (0 : Int32) dd_Tables_joinAll_0.2.2.2.2.2.2.2.2.2.2.2.2.2.2.2.2.1 (by decide) ?_
    refine g_istore_n (pc := 25) [(3, .int (0 : Int32)), (0, .ref b0), (1, .int b1), (2, .int b2)] dd_Tables_joinAll_0.2.2.2.2.2.2.2.2.2.2.2.2.2.2.2.2.2.1 rfl (Nat.le_of_ble_eq_true rfl) rfl ?_
    refine g_lv [1, 2, 3, 0] rfl ?_
    exact t_Tables_joinAll_26 rec2 hrec2 rec14 hrec14 FU _ _ _ _ _ _  hf
def f_Tables_joinAll_14 (rec2 : Nat → Int32 → mH → Option mH) : Nat → Nat → Int32 → Int32 → mH → Option mH
  | 0 => fun _ _ _ _ => none
  | n + 1 => f_Tables_joinAll_14b rec2 (f_Tables_joinAll_14 rec2 n)
theorem t_Tables_joinAll_14 {sc : Nat × (Nat → Int32)} (rec2 : Nat → Int32 → mH → Option mH) (hrec2 : ∀ (b0 : Nat) (b1 : Int32) (h : mH) (h' : mH), rec2 b0 b1 h = some h' → G sc y_Tables_joinAll prog_8_method_6_code 4 none 1 22 2 [(0, .ref b0), (1, .int b1)] [] h none h') : ∀ (n : Nat) (b0 : Nat) (b1 : Int32) (b2 : Int32) (h : mH) (h' : mH) (hf : f_Tables_joinAll_14 rec2 n b0 b1 b2 h = some h'), G sc y_Tables_joinAll prog_8_method_6_code 4 none 1 22 14 [(0, .ref b0), (1, .int b1), (2, .int b2)] [] h none h'
  | 0, _, _, _, _, _, hf => by cases hf
  | n + 1, _, _, _, _, _, hf => t_Tables_joinAll_14b rec2 hrec2 (f_Tables_joinAll_14 rec2 n) (t_Tables_joinAll_14 rec2 hrec2 n) _ _ _ _ _ hf
def f_Tables_joinAll_2b (rec2 : Nat → Int32 → mH → Option mH) (b0 : Nat) (b1 : Int32) (h : mH) : Option mH :=
  bd1 (gR h b0 7 5) fun x1 =>
  bd1 (aI h 0 x1 (0 : Int32)) fun x3 =>
  if x3 < b1 then
    some h
  else
    f_Tables_joinAll_14 rec2 FU b0 b1 (0 : Int32) h
set_option maxRecDepth 20000 in
theorem t_Tables_joinAll_2b {sc : Nat × (Nat → Int32)} (rec2 : Nat → Int32 → mH → Option mH) (hrec2 : ∀ (b0 : Nat) (b1 : Int32) (h : mH) (h' : mH), rec2 b0 b1 h = some h' → G sc y_Tables_joinAll prog_8_method_6_code 4 none 1 22 2 [(0, .ref b0), (1, .int b1)] [] h none h') (b0 : Nat) (b1 : Int32) (h : mH) (h' : mH) (hf : f_Tables_joinAll_2b rec2 b0 b1 h = some h') : G sc y_Tables_joinAll prog_8_method_6_code 4 none 1 22 2 [(0, .ref b0), (1, .int b1)] [] h none h' := by
  unfold f_Tables_joinAll_2b at hf
  refine g_iload_n (pc := 2) 1 dd_Tables_joinAll_0.2.2.1 rfl rfl ?_
  refine g_aload_n (pc := 3) 0 dd_Tables_joinAll_0.2.2.2.1 rfl rfl ?_
  obtain ⟨x1, e2, hf⟩ := bd1_e hf
  refine g_get (pc := 4) (ci := 7) (kk := 5) dd_Tables_joinAll_0.2.2.2.2.1 rfl in_Tables (by decide) wd_241 (gR_spec e2) ?_
  refine g_iconst (pc := 7) (0 : Int32) dd_Tables_joinAll_0.2.2.2.2.2.1 (by decide) ?_
  obtain ⟨x3, e4, hf⟩ := bd1_e hf
  refine g_iald (pc := 8) dd_Tables_joinAll_0.2.2.2.2.2.2.1 e4 ?_
  refine g_icmpgt (pc := 9) 91 dd_Tables_joinAll_0.2.2.2.2.2.2.2.1 (by decide) (fun c5 => ?_) (fun c5 => ?_)
  · replace hf := (if_pos c5).symm.trans hf
    obtain rfl := ret1 hf
    exact g_vret (pc := 91) rfl dd_Tables_joinAll_72.2.2.2.2.2.2.2
  · replace hf := (if_neg c5).symm.trans hf
    refine g_iconst (pc := 12) (0 : Int32) dd_Tables_joinAll_0.2.2.2.2.2.2.2.2.1 (by decide) ?_
    refine g_istore_n (pc := 13) [(2, .int (0 : Int32)), (0, .ref b0), (1, .int b1)] dd_Tables_joinAll_0.2.2.2.2.2.2.2.2.2.1 rfl (Nat.le_of_ble_eq_true rfl) rfl ?_
    refine g_lv [1, 2, 0] rfl ?_
    exact t_Tables_joinAll_14 rec2 hrec2 FU _ _ _ _ _  hf
def f_Tables_joinAll_2  : Nat → Nat → Int32 → mH → Option mH
  | 0 => fun _ _ _ => none
  | n + 1 => f_Tables_joinAll_2b  (f_Tables_joinAll_2  n)
theorem t_Tables_joinAll_2 {sc : Nat × (Nat → Int32)}  : ∀ (n : Nat) (b0 : Nat) (b1 : Int32) (h : mH) (h' : mH) (hf : f_Tables_joinAll_2  n b0 b1 h = some h'), G sc y_Tables_joinAll prog_8_method_6_code 4 none 1 22 2 [(0, .ref b0), (1, .int b1)] [] h none h'
  | 0, _, _, _, _, hf => by cases hf
  | n + 1, _, _, _, _, hf => t_Tables_joinAll_2b  (f_Tables_joinAll_2  n) (t_Tables_joinAll_2  n) _ _ _ _ hf
def f_Tables_joinAll_0  (a0 : Nat) (h : mH) : Option mH :=
  f_Tables_joinAll_2  FU a0 (0 : Int32) h
set_option maxRecDepth 20000 in
theorem t_Tables_joinAll_0 {sc : Nat × (Nat → Int32)}  (a0 : Nat) (h : mH) (h' : mH) (hf : f_Tables_joinAll_0  a0 h = some h') : G sc y_Tables_joinAll prog_8_method_6_code 4 none 1 22 0 [(0, .ref a0)] [] h none h' := by
  unfold f_Tables_joinAll_0 at hf
  refine g_iconst (pc := 0) (0 : Int32) dd_Tables_joinAll_0.1 (by decide) ?_
  refine g_istore_n (pc := 1) [(1, .int (0 : Int32)), (0, .ref a0)] dd_Tables_joinAll_0.2.1 rfl (Nat.le_of_ble_eq_true rfl) rfl ?_
  refine g_lv [1, 0] rfl ?_
  exact t_Tables_joinAll_2  FU _ _ _ _  hf
def f_Tables_joinAll (a0 : Nat) (h : mH) : Option mH := f_Tables_joinAll_0 a0 h
theorem c_Tables_joinAll {sc : Nat × (Nat → Int32)} {a0 : Nat} {h : mH} {h' : mH} (hf : f_Tables_joinAll a0 h = some h') : MM sc y_Tables_joinAll prog_8_method_6_code 4 none 1 22 [.ref a0] h none h' :=
  mm_of_G si_pn_Tables (Nat.le_of_ble_eq_true rfl) (t_Tables_joinAll_0 _ _ _ hf)
end
