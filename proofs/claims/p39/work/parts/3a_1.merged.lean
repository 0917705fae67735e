/-! 30.own -/
section
/-! Q isWithin (III)Z -/
set_option maxRecDepth 100000 in
theorem dd_Q_isWithin_0 : (decode prog_1_method_41_code 0 = .ok (.iload_n 0, 1)) ∧ (decode prog_1_method_41_code 1 = .ok (.iload_n 1, 1)) ∧ (decode prog_1_method_41_code 2 = .ok (.if_icmp .lt 12, 3)) ∧ (decode prog_1_method_41_code 5 = .ok (.iload_n 0, 1)) ∧ (decode prog_1_method_41_code 6 = .ok (.iload_n 2, 1)) ∧ (decode prog_1_method_41_code 7 = .ok (.if_icmp .gt 7, 3)) ∧ (decode prog_1_method_41_code 10 = .ok (.iconst 1, 1)) ∧ (decode prog_1_method_41_code 11 = .ok (.goto 4, 3)) ∧ (decode prog_1_method_41_code 14 = .ok (.iconst 0, 1)) ∧ (decode prog_1_method_41_code 15 = .ok (.ireturn, 1)) := by
  have h : List.drop 0 prog_1_method_41_code.data.toList = 0x1a :: _ := rfl
  refine ⟨zq_k_n 26 h rfl (zq_o_26 _), ?_⟩
  replace h := zq_nx1 (q := 1) h rfl
  refine ⟨zq_k_n 27 h rfl (zq_o_27 _), ?_⟩
  replace h := zq_nx1 (q := 2) h rfl
  refine ⟨zq_k_s2 161 (fun z => .if_icmp .lt z) 12 h rfl (zq_o_161 _) (by decide +kernel), ?_⟩
  replace h := zq_nx3 (q := 5) h rfl
  refine ⟨zq_k_n 26 h rfl (zq_o_26 _), ?_⟩
  replace h := zq_nx1 (q := 6) h rfl
  refine ⟨zq_k_n 28 h rfl (zq_o_28 _), ?_⟩
  replace h := zq_nx1 (q := 7) h rfl
  refine ⟨zq_k_s2 163 (fun z => .if_icmp .gt z) 7 h rfl (zq_o_163 _) (by decide +kernel), ?_⟩
  replace h := zq_nx3 (q := 10) h rfl
  refine ⟨zq_k_n 4 h rfl (zq_o_4 _), ?_⟩
  replace h := zq_nx1 (q := 11) h rfl
  refine ⟨zq_k_s2 167 (fun z => .goto z) 4 h rfl (zq_o_167 _) (by decide +kernel), ?_⟩
  replace h := zq_nx3 (q := 14) h rfl
  refine ⟨zq_k_n 3 h rfl (zq_o_3 _), ?_⟩
  replace h := zq_nx1 (q := 15) h rfl
  exact zq_k_n 172 h rfl (zq_o_172 _)
def f_Q_isWithin_14   (h : mH) : Option (Int32 × mH) :=
  some ((0 : Int32), h)
set_option maxRecDepth 20000 in
theorem t_Q_isWithin_14 {sc : Nat × (Nat → Int32)}   (h : mH) (r : Int32) (h' : mH) (hf : f_Q_isWithin_14   h = some (r, h')) : G sc y_Q_isWithin prog_1_method_41_code 3 (some .boolean) 0 0 14 [] [] h (some (.int r)) h' := by
  unfold f_Q_isWithin_14 at hf
  refine g_iconst (pc := 14) (0 : Int32) dd_Q_isWithin_0.2.2.2.2.2.2.2.2.1 (by decide) ?_
  obtain ⟨rfl, rfl⟩ := ret2 hf
  exact g_zret (pc := 15) rfl rfl dd_Q_isWithin_0.2.2.2.2.2.2.2.2.2
def f_Q_isWithin_0  (a0 : Int32) (a1 : Int32) (a2 : Int32) (h : mH) : Option (Int32 × mH) :=
  if a0 < a1 then
    f_Q_isWithin_14  h
  else
    if a2 < a0 then
      f_Q_isWithin_14  h
    else
      some ((1 : Int32), h)
set_option maxRecDepth 20000 in
theorem t_Q_isWithin_0 {sc : Nat × (Nat → Int32)}  (a0 : Int32) (a1 : Int32) (a2 : Int32) (h : mH) (r : Int32) (h' : mH) (hf : f_Q_isWithin_0  a0 a1 a2 h = some (r, h')) : G sc y_Q_isWithin prog_1_method_41_code 3 (some .boolean) 0 0 0 [(0, .int a0), (1, .int a1), (2, .int a2)] [] h (some (.int r)) h' := by
  unfold f_Q_isWithin_0 at hf
  refine g_iload_n (pc := 0) 0 dd_Q_isWithin_0.1 rfl rfl ?_
  refine g_iload_n (pc := 1) 1 dd_Q_isWithin_0.2.1 rfl rfl ?_
  refine g_icmplt (pc := 2) 14 dd_Q_isWithin_0.2.2.1 (by decide) (fun c2 => ?_) (fun c2 => ?_)
  · replace hf := (if_pos c2).symm.trans hf
    refine g_lv [] rfl ?_
    exact t_Q_isWithin_14  _ _ _  hf
  · replace hf := (if_neg c2).symm.trans hf
    refine g_iload_n (pc := 5) 0 dd_Q_isWithin_0.2.2.2.1 rfl rfl ?_
    refine g_iload_n (pc := 6) 2 dd_Q_isWithin_0.2.2.2.2.1 rfl rfl ?_
    refine g_icmpgt (pc := 7) 14 dd_Q_isWithin_0.2.2.2.2.2.1 (by decide) (fun c1 => ?_) (fun c1 => ?_)
    · replace hf := (if_pos c1).symm.trans hf
      refine g_lv [] rfl ?_
      exact t_Q_isWithin_14  _ _ _  hf
    · replace hf := (if_neg c1).symm.trans hf
      refine g_iconst (pc := 10) (1 : Int32) dd_Q_isWithin_0.2.2.2.2.2.2.1 (by decide) ?_
      refine g_goto (pc := 11) 15 dd_Q_isWithin_0.2.2.2.2.2.2.2.1 (by decide) ?_
      obtain ⟨rfl, rfl⟩ := ret2 hf
      exact g_zret (pc := 15) rfl rfl dd_Q_isWithin_0.2.2.2.2.2.2.2.2.2
def f_Q_isWithin (a0 : Int32) (a1 : Int32) (a2 : Int32) (h : mH) : Option (Int32 × mH) := f_Q_isWithin_0 a0 a1 a2 h
theorem c_Q_isWithin {sc : Nat × (Nat → Int32)} {a0 : Int32} {a1 : Int32} {a2 : Int32} {h : mH} {r : Int32} {h' : mH} (hf : f_Q_isWithin a0 a1 a2 h = some (r, h')) : MM sc y_Q_isWithin prog_1_method_41_code 3 (some .boolean) 0 0 [.int a0, .int a1, .int a2] h (some (.int r)) h' :=
  mm_of_G si_pn_Q (Nat.le_of_ble_eq_true rfl) (t_Q_isWithin_0 _ _ _ _ _ _ hf)
/-! Reader append (I)Z -/
set_option maxRecDepth 100000 in
theorem dd_Reader_append_0 : (decode prog_4_method_2_code 0 = .ok (.aload_n 0, 1)) ∧ (decode prog_4_method_2_code 1 = .ok (.getfield 15, 3)) ∧ (decode prog_4_method_2_code 4 = .ok (.sipush 160, 3)) ∧ (decode prog_4_method_2_code 7 = .ok (.if_icmp .lt 5, 3)) ∧ (decode prog_4_method_2_code 10 = .ok (.iconst 0, 1)) ∧ (decode prog_4_method_2_code 11 = .ok (.ireturn, 1)) ∧ (decode prog_4_method_2_code 12 = .ok (.aload_n 0, 1)) ∧ (decode prog_4_method_2_code 13 = .ok (.getfield 9, 3)) ∧ (decode prog_4_method_2_code 16 = .ok (.aload_n 0, 1)) ∧ (decode prog_4_method_2_code 17 = .ok (.getfield 15, 3)) ∧ (decode prog_4_method_2_code 20 = .ok (.iload_n 1, 1)) ∧ (decode prog_4_method_2_code 21 = .ok (.i2b, 1)) ∧ (decode prog_4_method_2_code 22 = .ok (.bastore, 1)) ∧ (decode prog_4_method_2_code 23 = .ok (.aload_n 0, 1)) ∧ (decode prog_4_method_2_code 24 = .ok (.dup, 1)) ∧ (decode prog_4_method_2_code 25 = .ok (.getfield 15, 3)) ∧ (decode prog_4_method_2_code 28 = .ok (.iconst 1, 1)) ∧ (decode prog_4_method_2_code 29 = .ok (.iadd, 1)) ∧ (decode prog_4_method_2_code 30 = .ok (.putfield 15, 3)) ∧ (decode prog_4_method_2_code 33 = .ok (.iconst 1, 1)) ∧ (decode prog_4_method_2_code 34 = .ok (.ireturn, 1)) := by
  have h : List.drop 0 prog_4_method_2_code.data.toList = 0x2a :: _ := rfl
  refine ⟨zq_k_n 42 h rfl (zq_o_42 _), ?_⟩
  replace h := zq_nx1 (q := 1) h rfl
  refine ⟨zq_k_u2 180 (fun z => .getfield z) 15 h rfl (zq_o_180 _) (by decide +kernel), ?_⟩
  replace h := zq_nx3 (q := 4) h rfl
  refine ⟨zq_k_s2 17 (fun z => .sipush z) 160 h rfl (zq_o_17 _) (by decide +kernel), ?_⟩
  replace h := zq_nx3 (q := 7) h rfl
  refine ⟨zq_k_s2 161 (fun z => .if_icmp .lt z) 5 h rfl (zq_o_161 _) (by decide +kernel), ?_⟩
  replace h := zq_nx3 (q := 10) h rfl
  refine ⟨zq_k_n 3 h rfl (zq_o_3 _), ?_⟩
  replace h := zq_nx1 (q := 11) h rfl
  refine ⟨zq_k_n 172 h rfl (zq_o_172 _), ?_⟩
  replace h := zq_nx1 (q := 12) h rfl
  refine ⟨zq_k_n 42 h rfl (zq_o_42 _), ?_⟩
  replace h := zq_nx1 (q := 13) h rfl
  refine ⟨zq_k_u2 180 (fun z => .getfield z) 9 h rfl (zq_o_180 _) (by decide +kernel), ?_⟩
  replace h := zq_nx3 (q := 16) h rfl
  refine ⟨zq_k_n 42 h rfl (zq_o_42 _), ?_⟩
  replace h := zq_nx1 (q := 17) h rfl
  refine ⟨zq_k_u2 180 (fun z => .getfield z) 15 h rfl (zq_o_180 _) (by decide +kernel), ?_⟩
  replace h := zq_nx3 (q := 20) h rfl
  refine ⟨zq_k_n 27 h rfl (zq_o_27 _), ?_⟩
  replace h := zq_nx1 (q := 21) h rfl
  refine ⟨zq_k_n 145 h rfl (zq_o_145 _), ?_⟩
  replace h := zq_nx1 (q := 22) h rfl
  refine ⟨zq_k_n 84 h rfl (zq_o_84 _), ?_⟩
  replace h := zq_nx1 (q := 23) h rfl
  refine ⟨zq_k_n 42 h rfl (zq_o_42 _), ?_⟩
  replace h := zq_nx1 (q := 24) h rfl
  refine ⟨zq_k_n 89 h rfl (zq_o_89 _), ?_⟩
  replace h := zq_nx1 (q := 25) h rfl
  refine ⟨zq_k_u2 180 (fun z => .getfield z) 15 h rfl (zq_o_180 _) (by decide +kernel), ?_⟩
  replace h := zq_nx3 (q := 28) h rfl
  refine ⟨zq_k_n 4 h rfl (zq_o_4 _), ?_⟩
  replace h := zq_nx1 (q := 29) h rfl
  refine ⟨zq_k_n 96 h rfl (zq_o_96 _), ?_⟩
  replace h := zq_nx1 (q := 30) h rfl
  refine ⟨zq_k_u2 181 (fun z => .putfield z) 15 h rfl (zq_o_181 _) (by decide +kernel), ?_⟩
  replace h := zq_nx3 (q := 33) h rfl
  refine ⟨zq_k_n 4 h rfl (zq_o_4 _), ?_⟩
  replace h := zq_nx1 (q := 34) h rfl
  exact zq_k_n 172 h rfl (zq_o_172 _)
def f_Reader_append_0  (a0 : Nat) (a1 : Int32) (h : mH) : Option (Int32 × mH) :=
  bd1 (gI h a0 3 1) fun x1 =>
  if x1 < (160 : Int32) then
    bd1 (gR h a0 3 0) fun x3 =>
    bd1 (gI h a0 3 1) fun x5 =>
    bd1 (sI h 1 x3 x5 (vp_nar .byte a1.toInt8.toInt32)) fun h7 =>
    bd1 (gI h7 a0 3 1) fun x9 =>
    bd1 (pV h7 a0 3 1 (.int (x9 + (1 : Int32)))) fun h11 =>
    some ((1 : Int32), h11)
  else
    some ((0 : Int32), h)
set_option maxRecDepth 20000 in
theorem t_Reader_append_0 {sc : Nat × (Nat → Int32)}  (a0 : Nat) (a1 : Int32) (h : mH) (r : Int32) (h' : mH) (hf : f_Reader_append_0  a0 a1 h = some (r, h')) : G sc y_Reader_append prog_4_method_2_code 2 (some .boolean) 0 0 0 [(0, .ref a0), (1, .int a1)] [] h (some (.int r)) h' := by
  unfold f_Reader_append_0 at hf
  refine g_aload_n (pc := 0) 0 dd_Reader_append_0.1 rfl rfl ?_
  obtain ⟨x1, e2, hf⟩ := bd1_e hf
  refine g_get (pc := 1) (ci := 3) (kk := 1) dd_Reader_append_0.2.1 rfl in_Reader (by decide) wd_33 (gI_spec e2) ?_
  refine g_sipush (pc := 4) (160 : Int32) dd_Reader_append_0.2.2.1 (by decide) ?_
  refine g_icmplt (pc := 7) 12 dd_Reader_append_0.2.2.2.1 (by decide) (fun c13 => ?_) (fun c13 => ?_)
  · replace hf := (if_pos c13).symm.trans hf
    refine g_aload_n (pc := 12) 0 dd_Reader_append_0.2.2.2.2.2.2.1 rfl rfl ?_
    obtain ⟨x3, e4, hf⟩ := bd1_e hf
    refine g_get (pc := 13) (ci := 3) (kk := 0) dd_Reader_append_0.2.2.2.2.2.2.2.1 rfl in_Reader (by decide) wd_32 (gR_spec e4) ?_
    refine g_aload_n (pc := 16) 0 dd_Reader_append_0.2.2.2.2.2.2.2.2.1 rfl rfl ?_
    obtain ⟨x5, e6, hf⟩ := bd1_e hf
    refine g_get (pc := 17) (ci := 3) (kk := 1) dd_Reader_append_0.2.2.2.2.2.2.2.2.2.1 rfl in_Reader (by decide) wd_33 (gI_spec e6) ?_
    refine g_iload_n (pc := 20) 1 dd_Reader_append_0.2.2.2.2.2.2.2.2.2.2.1 rfl rfl ?_
    refine g_i2b (pc := 21) dd_Reader_append_0.2.2.2.2.2.2.2.2.2.2.2.1 ?_
    obtain ⟨h7, e8, hf⟩ := bd1_e hf
    refine g_bast (pc := 22) dd_Reader_append_0.2.2.2.2.2.2.2.2.2.2.2.2.1 e8 ?_
    refine g_aload_n (pc := 23) 0 dd_Reader_append_0.2.2.2.2.2.2.2.2.2.2.2.2.2.1 rfl rfl ?_
    refine g_dup (pc := 24) dd_Reader_append_0.2.2.2.2.2.2.2.2.2.2.2.2.2.2.1 rfl ?_
    obtain ⟨x9, e10, hf⟩ := bd1_e hf
    refine g_get (pc := 25) (ci := 3) (kk := 1) dd_Reader_append_0.2.2.2.2.2.2.2.2.2.2.2.2.2.2.2.1 rfl in_Reader (by decide) wd_33 (gI_spec e10) ?_
    refine g_iconst (pc := 28) (1 : Int32) dd_Reader_append_0.2.2.2.2.2.2.2.2.2.2.2.2.2.2.2.2.1 (by decide) ?_
    refine g_iadd (pc := 29) dd_Reader_append_0.2.2.2.2.2.2.2.2.2.2.2.2.2.2.2.2.2.1 ?_
    obtain ⟨h11, e12, hf⟩ := bd1_e hf
    refine g_put (pc := 30) (ci := 3) (kk := 1) ty_Reader tyok_Reader nm_Reader dd_Reader_append_0.2.2.2.2.2.2.2.2.2.2.2.2.2.2.2.2.2.2.1 rfl in_Reader (by decide) wd_33 rfl (fun _ => rfl) (fun _ => rfl) (fun _ z => by cases z) e12 ?_
    refine g_iconst (pc := 33) (1 : Int32) dd_Reader_append_0.2.2.2.2.2.2.2.2.2.2.2.2.2.2.2.2.2.2.2.1 (by decide) ?_
    obtain ⟨rfl, rfl⟩ := ret2 hf
    exact g_zret (pc := 34) rfl rfl dd_Reader_append_0.2.2.2.2.2.2.2.2.2.2.2.2.2.2.2.2.2.2.2.2
  · replace hf := (if_neg c13).symm.trans hf
    refine g_iconst (pc := 10) (0 : Int32) dd_Reader_append_0.2.2.2.2.1 (by decide) ?_
    obtain ⟨rfl, rfl⟩ := ret2 hf
    exact g_zret (pc := 11) rfl rfl dd_Reader_append_0.2.2.2.2.2.1
def f_Reader_append (a0 : Nat) (a1 : Int32) (h : mH) : Option (Int32 × mH) := f_Reader_append_0 a0 a1 h
theorem c_Reader_append {sc : Nat × (Nat → Int32)} {a0 : Nat} {a1 : Int32} {h : mH} {r : Int32} {h' : mH} (hf : f_Reader_append a0 a1 h = some (r, h')) : MM sc y_Reader_append prog_4_method_2_code 2 (some .boolean) 0 0 [.ref a0, .int a1] h (some (.int r)) h' :=
  mm_of_G si_pn_Reader (Nat.le_of_ble_eq_true rfl) (t_Reader_append_0 _ _ _ _ _ hf)
/-! Q feed (I)I -/
set_option maxRecDepth 100000 in
theorem dd_Q_feed_0 : (decode prog_1_method_2_code 0 = .ok (.iload_n 1, 1)) ∧ (decode prog_1_method_2_code 1 = .ok (.iconst 0, 1)) ∧ (decode prog_1_method_2_code 2 = .ok (.bipush 127, 2)) ∧ (decode prog_1_method_2_code 4 = .ok (.invokestatic 62, 3)) ∧ (decode prog_1_method_2_code 7 = .ok (.ifCond .ne 5, 3)) ∧ (decode prog_1_method_2_code 10 = .ok (.iconst (-1), 1)) ∧ (decode prog_1_method_2_code 11 = .ok (.ireturn, 1)) ∧ (decode prog_1_method_2_code 12 = .ok (.aload_n 0, 1)) ∧ (decode prog_1_method_2_code 13 = .ok (.getfield 10, 3)) ∧ (decode prog_1_method_2_code 16 = .ok (.iload_n 1, 1)) ∧ (decode prog_1_method_2_code 17 = .ok (.invokevirtual 66, 3)) ∧ (decode prog_1_method_2_code 20 = .ok (.ifCond .eq 13, 3)) ∧ (decode prog_1_method_2_code 23 = .ok (.aload_n 0, 1)) ∧ (decode prog_1_method_2_code 24 = .ok (.getfield 10, 3)) ∧ (decode prog_1_method_2_code 27 = .ok (.getfield 70, 3)) ∧ (decode prog_1_method_2_code 30 = .ok (.goto 5, 3)) ∧ (decode prog_1_method_2_code 33 = .ok (.bipush (-3), 2)) ∧ (decode prog_1_method_2_code 35 = .ok (.ireturn, 1)) := by
  have h : List.drop 0 prog_1_method_2_code.data.toList = 0x1b :: _ := rfl
  refine ⟨zq_k_n 27 h rfl (zq_o_27 _), ?_⟩
  replace h := zq_nx1 (q := 1) h rfl
  refine ⟨zq_k_n 3 h rfl (zq_o_3 _), ?_⟩
  replace h := zq_nx1 (q := 2) h rfl
  refine ⟨zq_k_s1 16 (fun z => .bipush z) 127 h rfl (zq_o_16 _) (by decide +kernel), ?_⟩
  replace h := zq_nx2 (q := 4) h rfl
  refine ⟨zq_k_u2 184 (fun z => .invokestatic z) 62 h rfl (zq_o_184 _) (by decide +kernel), ?_⟩
  replace h := zq_nx3 (q := 7) h rfl
  refine ⟨zq_k_s2 154 (fun z => .ifCond .ne z) 5 h rfl (zq_o_154 _) (by decide +kernel), ?_⟩
  replace h := zq_nx3 (q := 10) h rfl
  refine ⟨zq_k_n 2 h rfl (zq_o_2 _), ?_⟩
  replace h := zq_nx1 (q := 11) h rfl
  refine ⟨zq_k_n 172 h rfl (zq_o_172 _), ?_⟩
  replace h := zq_nx1 (q := 12) h rfl
  refine ⟨zq_k_n 42 h rfl (zq_o_42 _), ?_⟩
  replace h := zq_nx1 (q := 13) h rfl
  refine ⟨zq_k_u2 180 (fun z => .getfield z) 10 h rfl (zq_o_180 _) (by decide +kernel), ?_⟩
  replace h := zq_nx3 (q := 16) h rfl
  refine ⟨zq_k_n 27 h rfl (zq_o_27 _), ?_⟩
  replace h := zq_nx1 (q := 17) h rfl
  refine ⟨zq_k_u2 182 (fun z => .invokevirtual z) 66 h rfl (zq_o_182 _) (by decide +kernel), ?_⟩
  replace h := zq_nx3 (q := 20) h rfl
  refine ⟨zq_k_s2 153 (fun z => .ifCond .eq z) 13 h rfl (zq_o_153 _) (by decide +kernel), ?_⟩
  replace h := zq_nx3 (q := 23) h rfl
  refine ⟨zq_k_n 42 h rfl (zq_o_42 _), ?_⟩
  replace h := zq_nx1 (q := 24) h rfl
  refine ⟨zq_k_u2 180 (fun z => .getfield z) 10 h rfl (zq_o_180 _) (by decide +kernel), ?_⟩
  replace h := zq_nx3 (q := 27) h rfl
  refine ⟨zq_k_u2 180 (fun z => .getfield z) 70 h rfl (zq_o_180 _) (by decide +kernel), ?_⟩
  replace h := zq_nx3 (q := 30) h rfl
  refine ⟨zq_k_s2 167 (fun z => .goto z) 5 h rfl (zq_o_167 _) (by decide +kernel), ?_⟩
  replace h := zq_nx3 (q := 33) h rfl
  refine ⟨zq_k_s1 16 (fun z => .bipush z) (-3) h rfl (zq_o_16 _) (by decide +kernel), ?_⟩
  replace h := zq_nx2 (q := 35) h rfl
  exact zq_k_n 172 h rfl (zq_o_172 _)
def f_Q_feed_0  (a0 : Nat) (a1 : Int32) (h : mH) : Option (Int32 × mH) :=
  bd2 (f_Q_isWithin a1 (0 : Int32) (127 : Int32) h) fun x3 h1 =>
  if x3 = 0 then
    some (((-1) : Int32), h1)
  else
    bd1 (gR h1 a0 0 0) fun x4 =>
    bd1 (kC h1 x4 3) fun _ =>
    bd2 (f_Reader_append x4 a1 h1) fun x10 h8 =>
    if x10 = 0 then
      some (((-3) : Int32), h8)
    else
      bd1 (gR h8 a0 0 0) fun x11 =>
      bd1 (gI h8 x11 3 1) fun x13 =>
      some (x13, h8)
set_option maxRecDepth 20000 in
theorem t_Q_feed_0 {sc : Nat × (Nat → Int32)}  (a0 : Nat) (a1 : Int32) (h : mH) (r : Int32) (h' : mH) (hf : f_Q_feed_0  a0 a1 h = some (r, h')) : G sc y_Q_feed prog_1_method_2_code 2 (some .int) 1 22 0 [(0, .ref a0), (1, .int a1)] [] h (some (.int r)) h' := by
  unfold f_Q_feed_0 at hf
  refine g_iload_n (pc := 0) 1 dd_Q_feed_0.1 rfl rfl ?_
  refine g_iconst (pc := 1) (0 : Int32) dd_Q_feed_0.2.1 (by decide) ?_
  refine g_bipush (pc := 2) (127 : Int32) dd_Q_feed_0.2.2.1 (by decide) ?_
  obtain ⟨x3, h1, e2, hf⟩ := bd2_e hf
  refine g_callS (pc := 4) [.int a1, .int (0 : Int32), .int (127 : Int32)] (site_of si_Q_isWithin (by decide) (by decide)) wd_331 wd_332 dd_Q_feed_0.2.2.2.1 (Nat.le_of_ble_eq_true rfl) (fun z => absurd z si_na_Q_isWithin) (fun z => absurd z si_na_Q_isWithin) (fun z => absurd z si_na_Q_isWithin) (c_Q_isWithin e2) rfl ?_
  refine g_st [.int x3] rfl ?_
  refine g_ifne (pc := 7) 12 dd_Q_feed_0.2.2.2.2.1 (by decide) (fun c16 => ?_) (fun c16 => ?_)
  · replace hf := (if_neg c16).symm.trans hf
    refine g_aload_n (pc := 12) 0 dd_Q_feed_0.2.2.2.2.2.2.2.1 rfl rfl ?_
    obtain ⟨x4, e5, hf⟩ := bd1_e hf
    refine g_get (pc := 13) (ci := 0) (kk := 0) dd_Q_feed_0.2.2.2.2.2.2.2.2.1 rfl in_Q (by decide) wd_296 (gR_spec e5) ?_
    refine g_iload_n (pc := 16) 1 dd_Q_feed_0.2.2.2.2.2.2.2.2.2.1 rfl rfl ?_
    obtain ⟨u7, e6, hf⟩ := bd1_e hf
    obtain ⟨x10, h8, e9, hf⟩ := bd2_e hf
    refine g_callV (pc := 17) (ci := 3) [.int a1] (site_of si_Reader_append (by decide) (by decide)) wd_334 wd_335 wd_336 dd_Q_feed_0.2.2.2.2.2.2.2.2.2.2.1 rfl e6 (Nat.le_of_ble_eq_true rfl) (fun z => absurd z si_na_Reader_append) (fun z => absurd z si_na_Reader_append) (fun z => absurd z si_na_Reader_append) (c_Reader_append e9) rfl ?_
    refine g_st [.int x10] rfl ?_
    refine g_ifeq (pc := 20) 33 dd_Q_feed_0.2.2.2.2.2.2.2.2.2.2.2.1 (by decide) (fun c15 => ?_) (fun c15 => ?_)
    · replace hf := (if_pos c15).symm.trans hf
      refine g_bipush (pc := 33) ((-3) : Int32) dd_Q_feed_0.2.2.2.2.2.2.2.2.2.2.2.2.2.2.2.2.1 (by decide) ?_
      obtain ⟨rfl, rfl⟩ := ret2 hf
      exact g_iret (pc := 35) rfl dd_Q_feed_0.2.2.2.2.2.2.2.2.2.2.2.2.2.2.2.2.2
    · replace hf := (if_neg c15).symm.trans hf
      refine g_aload_n (pc := 23) 0 dd_Q_feed_0.2.2.2.2.2.2.2.2.2.2.2.2.1 rfl rfl ?_
      obtain ⟨x11, e12, hf⟩ := bd1_e hf
      refine g_get (pc := 24) (ci := 0) (kk := 0) dd_Q_feed_0.2.2.2.2.2.2.2.2.2.2.2.2.2.1 rfl in_Q (by decide) wd_296 (gR_spec e12) ?_
      obtain ⟨x13, e14, hf⟩ := bd1_e hf
      refine g_get (pc := 27) (ci := 3) (kk := 1) dd_Q_feed_0.2.2.2.2.2.2.2.2.2.2.2.2.2.2.1 rfl in_Reader (by decide) wd_34 (gI_spec e14) ?_
      refine g_goto (pc := 30) 35 dd_Q_feed_0.2.2.2.2.2.2.2.2.2.2.2.2.2.2.2.1 (by decide) ?_
      obtain ⟨rfl, rfl⟩ := ret2 hf
      exact g_iret (pc := 35) rfl dd_Q_feed_0.2.2.2.2.2.2.2.2.2.2.2.2.2.2.2.2.2
  · replace hf := (if_pos c16).symm.trans hf
    refine g_iconst (pc := 10) ((-1) : Int32) dd_Q_feed_0.2.2.2.2.2.1 (by decide) ?_
    obtain ⟨rfl, rfl⟩ := ret2 hf
    exact g_iret (pc := 11) rfl dd_Q_feed_0.2.2.2.2.2.2.1
def f_Q_feed (a0 : Nat) (a1 : Int32) (h : mH) : Option (Int32 × mH) := f_Q_feed_0 a0 a1 h
theorem c_Q_feed {sc : Nat × (Nat → Int32)} {a0 : Nat} {a1 : Int32} {h : mH} {r : Int32} {h' : mH} (hf : f_Q_feed a0 a1 h = some (r, h')) : MM sc y_Q_feed prog_1_method_2_code 2 (some .int) 1 22 [.ref a0, .int a1] h (some (.int r)) h' :=
  mm_of_G si_pn_Q (Nat.le_of_ble_eq_true rfl) (t_Q_feed_0 _ _ _ _ _ hf)
/-! Q end (I)I -/
set_option maxRecDepth 100000 in
theorem dd_Q_end_0 : (decode prog_1_method_3_code 0 = .ok (.iload_n 1, 1)) ∧ (decode prog_1_method_3_code 1 = .ok (.iconst 0, 1)) ∧ (decode prog_1_method_3_code 2 = .ok (.aload_n 0, 1)) ∧ (decode prog_1_method_3_code 3 = .ok (.getfield 10, 3)) ∧ (decode prog_1_method_3_code 6 = .ok (.getfield 70, 3)) ∧ (decode prog_1_method_3_code 9 = .ok (.invokestatic 62, 3)) ∧ (decode prog_1_method_3_code 12 = .ok (.ifCond .ne 5, 3)) ∧ (decode prog_1_method_3_code 15 = .ok (.iconst (-1), 1)) ∧ (decode prog_1_method_3_code 16 = .ok (.ireturn, 1)) ∧ (decode prog_1_method_3_code 17 = .ok (.aload_n 0, 1)) ∧ (decode prog_1_method_3_code 18 = .ok (.getfield 10, 3)) ∧ (decode prog_1_method_3_code 21 = .ok (.getfield 70, 3)) ∧ (decode prog_1_method_3_code 24 = .ok (.istore_n 2, 1)) ∧ (decode prog_1_method_3_code 25 = .ok (.aload_n 0, 1)) ∧ (decode prog_1_method_3_code 26 = .ok (.getfield 10, 3)) ∧ (decode prog_1_method_3_code 29 = .ok (.iload_n 1, 1)) ∧ (decode prog_1_method_3_code 30 = .ok (.putfield 70, 3)) ∧ (decode prog_1_method_3_code 33 = .ok (.iload_n 2, 1)) ∧ (decode prog_1_method_3_code 34 = .ok (.ireturn, 1)) := by
  have h : List.drop 0 prog_1_method_3_code.data.toList = 0x1b :: _ := rfl
  refine ⟨zq_k_n 27 h rfl (zq_o_27 _), ?_⟩
  replace h := zq_nx1 (q := 1) h rfl
  refine ⟨zq_k_n 3 h rfl (zq_o_3 _), ?_⟩
  replace h := zq_nx1 (q := 2) h rfl
  refine ⟨zq_k_n 42 h rfl (zq_o_42 _), ?_⟩
  replace h := zq_nx1 (q := 3) h rfl
  refine ⟨zq_k_u2 180 (fun z => .getfield z) 10 h rfl (zq_o_180 _) (by decide +kernel), ?_⟩
  replace h := zq_nx3 (q := 6) h rfl
  refine ⟨zq_k_u2 180 (fun z => .getfield z) 70 h rfl (zq_o_180 _) (by decide +kernel), ?_⟩
  replace h := zq_nx3 (q := 9) h rfl
  refine ⟨zq_k_u2 184 (fun z => .invokestatic z) 62 h rfl (zq_o_184 _) (by decide +kernel), ?_⟩
  replace h := zq_nx3 (q := 12) h rfl
  refine ⟨zq_k_s2 154 (fun z => .ifCond .ne z) 5 h rfl (zq_o_154 _) (by decide +kernel), ?_⟩
  replace h := zq_nx3 (q := 15) h rfl
  refine ⟨zq_k_n 2 h rfl (zq_o_2 _), ?_⟩
  replace h := zq_nx1 (q := 16) h rfl
  refine ⟨zq_k_n 172 h rfl (zq_o_172 _), ?_⟩
  replace h := zq_nx1 (q := 17) h rfl
  refine ⟨zq_k_n 42 h rfl (zq_o_42 _), ?_⟩
  replace h := zq_nx1 (q := 18) h rfl
  refine ⟨zq_k_u2 180 (fun z => .getfield z) 10 h rfl (zq_o_180 _) (by decide +kernel), ?_⟩
  replace h := zq_nx3 (q := 21) h rfl
  refine ⟨zq_k_u2 180 (fun z => .getfield z) 70 h rfl (zq_o_180 _) (by decide +kernel), ?_⟩
  replace h := zq_nx3 (q := 24) h rfl
  refine ⟨zq_k_n 61 h rfl (zq_o_61 _), ?_⟩
  replace h := zq_nx1 (q := 25) h rfl
  refine ⟨zq_k_n 42 h rfl (zq_o_42 _), ?_⟩
  replace h := zq_nx1 (q := 26) h rfl
  refine ⟨zq_k_u2 180 (fun z => .getfield z) 10 h rfl (zq_o_180 _) (by decide +kernel), ?_⟩
  replace h := zq_nx3 (q := 29) h rfl
  refine ⟨zq_k_n 27 h rfl (zq_o_27 _), ?_⟩
  replace h := zq_nx1 (q := 30) h rfl
  refine ⟨zq_k_u2 181 (fun z => .putfield z) 70 h rfl (zq_o_181 _) (by decide +kernel), ?_⟩
  replace h := zq_nx3 (q := 33) h rfl
  refine ⟨zq_k_n 28 h rfl (zq_o_28 _), ?_⟩
  replace h := zq_nx1 (q := 34) h rfl
  exact zq_k_n 172 h rfl (zq_o_172 _)
def f_Q_end_0  (a0 : Nat) (a1 : Int32) (h : mH) : Option (Int32 × mH) :=
  bd1 (gR h a0 0 0) fun x1 =>
  bd1 (gI h x1 3 1) fun x3 =>
  bd2 (f_Q_isWithin a1 (0 : Int32) x3 h) fun x7 h5 =>
  if x7 = 0 then
    some (((-1) : Int32), h5)
  else
    bd1 (gR h5 a0 0 0) fun x8 =>
    bd1 (gI h5 x8 3 1) fun x10 =>
    bd1 (gR h5 a0 0 0) fun x12 =>
    bd1 (pV h5 x12 3 1 (.int a1)) fun h14 =>
    some (x10, h14)
set_option maxRecDepth 20000 in
theorem t_Q_end_0 {sc : Nat × (Nat → Int32)}  (a0 : Nat) (a1 : Int32) (h : mH) (r : Int32) (h' : mH) (hf : f_Q_end_0  a0 a1 h = some (r, h')) : G sc y_Q_end prog_1_method_3_code 3 (some .int) 1 22 0 [(0, .ref a0), (1, .int a1)] [] h (some (.int r)) h' := by
  unfold f_Q_end_0 at hf
  refine g_iload_n (pc := 0) 1 dd_Q_end_0.1 rfl rfl ?_
  refine g_iconst (pc := 1) (0 : Int32) dd_Q_end_0.2.1 (by decide) ?_
  refine g_aload_n (pc := 2) 0 dd_Q_end_0.2.2.1 rfl rfl ?_
  obtain ⟨x1, e2, hf⟩ := bd1_e hf
  refine g_get (pc := 3) (ci := 0) (kk := 0) dd_Q_end_0.2.2.2.1 rfl in_Q (by decide) wd_296 (gR_spec e2) ?_
  obtain ⟨x3, e4, hf⟩ := bd1_e hf
  refine g_get (pc := 6) (ci := 3) (kk := 1) dd_Q_end_0.2.2.2.2.1 rfl in_Reader (by decide) wd_34 (gI_spec e4) ?_
  obtain ⟨x7, h5, e6, hf⟩ := bd2_e hf
  refine g_callS (pc := 9) [.int a1, .int (0 : Int32), .int x3] (site_of si_Q_isWithin (by decide) (by decide)) wd_331 wd_332 dd_Q_end_0.2.2.2.2.2.1 (Nat.le_of_ble_eq_true rfl) (fun z => absurd z si_na_Q_isWithin) (fun z => absurd z si_na_Q_isWithin) (fun z => absurd z si_na_Q_isWithin) (c_Q_isWithin e6) rfl ?_
  refine g_st [.int x7] rfl ?_
  refine g_ifne (pc := 12) 17 dd_Q_end_0.2.2.2.2.2.2.1 (by decide) (fun c16 => ?_) (fun c16 => ?_)
  · replace hf := (if_neg c16).symm.trans hf
    refine g_aload_n (pc := 17) 0 dd_Q_end_0.2.2.2.2.2.2.2.2.2.1 rfl rfl ?_
    obtain ⟨x8, e9, hf⟩ := bd1_e hf
    refine g_get (pc := 18) (ci := 0) (kk := 0) dd_Q_end_0.2.2.2.2.2.2.2.2.2.2.1 rfl in_Q (by decide) wd_296 (gR_spec e9) ?_
    obtain ⟨x10, e11, hf⟩ := bd1_e hf
    refine g_get (pc := 21) (ci := 3) (kk := 1) dd_Q_end_0.2.2.2.2.2.2.2.2.2.2.2.1 rfl in_Reader (by decide) wd_34 (gI_spec e11) ?_
    refine g_istore_n (pc := 24) [(2, .int x10), (0, .ref a0), (1, .int a1)] dd_Q_end_0.2.2.2.2.2.2.2.2.2.2.2.2.1 rfl (Nat.le_of_ble_eq_true rfl) rfl ?_
    refine g_aload_n (pc := 25) 1 dd_Q_end_0.2.2.2.2.2.2.2.2.2.2.2.2.2.1 rfl rfl ?_
    obtain ⟨x12, e13, hf⟩ := bd1_e hf
    refine g_get (pc := 26) (ci := 0) (kk := 0) dd_Q_end_0.2.2.2.2.2.2.2.2.2.2.2.2.2.2.1 rfl in_Q (by decide) wd_296 (gR_spec e13) ?_
    refine g_iload_n (pc := 29) 2 dd_Q_end_0.2.2.2.2.2.2.2.2.2.2.2.2.2.2.2.1 rfl rfl ?_
    obtain ⟨h14, e15, hf⟩ := bd1_e hf
    refine g_put (pc := 30) (ci := 3) (kk := 1) ty_Reader tyok_Reader nm_Reader dd_Q_end_0.2.2.2.2.2.2.2.2.2.2.2.2.2.2.2.2.1 rfl in_Reader (by decide) wd_34 rfl (fun _ => rfl) (fun _ => rfl) (fun _ z => by cases z) e15 ?_
    refine g_iload_n (pc := 33) 0 dd_Q_end_0.2.2.2.2.2.2.2.2.2.2.2.2.2.2.2.2.2.1 rfl rfl ?_
    obtain ⟨rfl, rfl⟩ := ret2 hf
    exact g_iret (pc := 34) rfl dd_Q_end_0.2.2.2.2.2.2.2.2.2.2.2.2.2.2.2.2.2.2
  · replace hf := (if_pos c16).symm.trans hf
    refine g_iconst (pc := 15) ((-1) : Int32) dd_Q_end_0.2.2.2.2.2.2.2.1 (by decide) ?_
    obtain ⟨rfl, rfl⟩ := ret2 hf
    exact g_iret (pc := 16) rfl dd_Q_end_0.2.2.2.2.2.2.2.2.1
def f_Q_end (a0 : Nat) (a1 : Int32) (h : mH) : Option (Int32 × mH) := f_Q_end_0 a0 a1 h
theorem c_Q_end {sc : Nat × (Nat → Int32)} {a0 : Nat} {a1 : Int32} {h : mH} {r : Int32} {h' : mH} (hf : f_Q_end a0 a1 h = some (r, h')) : MM sc y_Q_end prog_1_method_3_code 3 (some .int) 1 22 [.ref a0, .int a1] h (some (.int r)) h' :=
  mm_of_G si_pn_Q (Nat.le_of_ble_eq_true rfl) (t_Q_end_0 _ _ _ _ _ hf)
/-! Realm empty ()V -/
set_option maxRecDepth 100000 in
theorem dd_Realm_empty_0 : (decode prog_5_method_2_code 0 = .ok (.aload_n 0, 1)) ∧ (decode prog_5_method_2_code 1 = .ok (.iconst 0, 1)) ∧ (decode prog_5_method_2_code 2 = .ok (.putfield 55, 3)) ∧ (decode prog_5_method_2_code 5 = .ok (.aload_n 0, 1)) ∧ (decode prog_5_method_2_code 6 = .ok (.iconst 0, 1)) ∧ (decode prog_5_method_2_code 7 = .ok (.putfield 59, 3)) ∧ (decode prog_5_method_2_code 10 = .ok (.aload_n 0, 1)) ∧ (decode prog_5_method_2_code 11 = .ok (.iconst 0, 1)) ∧ (decode prog_5_method_2_code 12 = .ok (.putfield 62, 3)) ∧ (decode prog_5_method_2_code 15 = .ok (.aload_n 0, 1)) ∧ (decode prog_5_method_2_code 16 = .ok (.iconst 0, 1)) ∧ (decode prog_5_method_2_code 17 = .ok (.putfield 65, 3)) ∧ (decode prog_5_method_2_code 20 = .ok (.aload_n 0, 1)) ∧ (decode prog_5_method_2_code 21 = .ok (.iconst 0, 1)) ∧ (decode prog_5_method_2_code 22 = .ok (.putfield 68, 3)) ∧ (decode prog_5_method_2_code 25 = .ok (.aload_n 0, 1)) ∧ (decode prog_5_method_2_code 26 = .ok (.iconst 0, 1)) ∧ (decode prog_5_method_2_code 27 = .ok (.putfield 71, 3)) ∧ (decode prog_5_method_2_code 30 = .ok (.aload_n 0, 1)) ∧ (decode prog_5_method_2_code 31 = .ok (.getfield 51, 3)) ∧ (decode prog_5_method_2_code 34 = .ok (.iconst 0, 1)) ∧ (decode prog_5_method_2_code 35 = .ok (.putfield 74, 3)) ∧ (decode prog_5_method_2_code 38 = .ok (.aload_n 0, 1)) ∧ (decode prog_5_method_2_code 39 = .ok (.getfield 39, 3)) := by
  have h : List.drop 0 prog_5_method_2_code.data.toList = 0x2a :: _ := rfl
  refine ⟨zq_k_n 42 h rfl (zq_o_42 _), ?_⟩
  replace h := zq_nx1 (q := 1) h rfl
  refine ⟨zq_k_n 3 h rfl (zq_o_3 _), ?_⟩
  replace h := zq_nx1 (q := 2) h rfl
  refine ⟨zq_k_u2 181 (fun z => .putfield z) 55 h rfl (zq_o_181 _) (by decide +kernel), ?_⟩
  replace h := zq_nx3 (q := 5) h rfl
  refine ⟨zq_k_n 42 h rfl (zq_o_42 _), ?_⟩
  replace h := zq_nx1 (q := 6) h rfl
  refine ⟨zq_k_n 3 h rfl (zq_o_3 _), ?_⟩
  replace h := zq_nx1 (q := 7) h rfl
  refine ⟨zq_k_u2 181 (fun z => .putfield z) 59 h rfl (zq_o_181 _) (by decide +kernel), ?_⟩
  replace h := zq_nx3 (q := 10) h rfl
  refine ⟨zq_k_n 42 h rfl (zq_o_42 _), ?_⟩
  replace h := zq_nx1 (q := 11) h rfl
  refine ⟨zq_k_n 3 h rfl (zq_o_3 _), ?_⟩
  replace h := zq_nx1 (q := 12) h rfl
  refine ⟨zq_k_u2 181 (fun z => .putfield z) 62 h rfl (zq_o_181 _) (by decide +kernel), ?_⟩
  replace h := zq_nx3 (q := 15) h rfl
  refine ⟨zq_k_n 42 h rfl (zq_o_42 _), ?_⟩
  replace h := zq_nx1 (q := 16) h rfl
  refine ⟨zq_k_n 3 h rfl (zq_o_3 _), ?_⟩
  replace h := zq_nx1 (q := 17) h rfl
  refine ⟨zq_k_u2 181 (fun z => .putfield z) 65 h rfl (zq_o_181 _) (by decide +kernel), ?_⟩
  replace h := zq_nx3 (q := 20) h rfl
  refine ⟨zq_k_n 42 h rfl (zq_o_42 _), ?_⟩
  replace h := zq_nx1 (q := 21) h rfl
  refine ⟨zq_k_n 3 h rfl (zq_o_3 _), ?_⟩
  replace h := zq_nx1 (q := 22) h rfl
  refine ⟨zq_k_u2 181 (fun z => .putfield z) 68 h rfl (zq_o_181 _) (by decide +kernel), ?_⟩
  replace h := zq_nx3 (q := 25) h rfl
  refine ⟨zq_k_n 42 h rfl (zq_o_42 _), ?_⟩
  replace h := zq_nx1 (q := 26) h rfl
  refine ⟨zq_k_n 3 h rfl (zq_o_3 _), ?_⟩
  replace h := zq_nx1 (q := 27) h rfl
  refine ⟨zq_k_u2 181 (fun z => .putfield z) 71 h rfl (zq_o_181 _) (by decide +kernel), ?_⟩
  replace h := zq_nx3 (q := 30) h rfl
  refine ⟨zq_k_n 42 h rfl (zq_o_42 _), ?_⟩
  replace h := zq_nx1 (q := 31) h rfl
  refine ⟨zq_k_u2 180 (fun z => .getfield z) 51 h rfl (zq_o_180 _) (by decide +kernel), ?_⟩
  replace h := zq_nx3 (q := 34) h rfl
  refine ⟨zq_k_n 3 h rfl (zq_o_3 _), ?_⟩
  replace h := zq_nx1 (q := 35) h rfl
  refine ⟨zq_k_u2 181 (fun z => .putfield z) 74 h rfl (zq_o_181 _) (by decide +kernel), ?_⟩
  replace h := zq_nx3 (q := 38) h rfl
  refine ⟨zq_k_n 42 h rfl (zq_o_42 _), ?_⟩
  replace h := zq_nx1 (q := 39) h rfl
  exact zq_k_u2 180 (fun z => .getfield z) 39 h rfl (zq_o_180 _) (by decide +kernel)
set_option maxRecDepth 100000 in
theorem dd_Realm_empty_42 : (decode prog_5_method_2_code 42 = .ok (.iconst 0, 1)) ∧ (decode prog_5_method_2_code 43 = .ok (.invokestatic 77, 3)) ∧ (decode prog_5_method_2_code 46 = .ok (.aload_n 0, 1)) ∧ (decode prog_5_method_2_code 47 = .ok (.getfield 42, 3)) ∧ (decode prog_5_method_2_code 50 = .ok (.iconst 0, 1)) ∧ (decode prog_5_method_2_code 51 = .ok (.invokestatic 77, 3)) ∧ (decode prog_5_method_2_code 54 = .ok (.aload_n 0, 1)) ∧ (decode prog_5_method_2_code 55 = .ok (.getfield 45, 3)) ∧ (decode prog_5_method_2_code 58 = .ok (.iconst 0, 1)) ∧ (decode prog_5_method_2_code 59 = .ok (.invokestatic 77, 3)) ∧ (decode prog_5_method_2_code 62 = .ok (.return_, 1)) := by
  have h : List.drop 42 prog_5_method_2_code.data.toList = 0x03 :: _ := rfl
  refine ⟨zq_k_n 3 h rfl (zq_o_3 _), ?_⟩
  replace h := zq_nx1 (q := 43) h rfl
  refine ⟨zq_k_u2 184 (fun z => .invokestatic z) 77 h rfl (zq_o_184 _) (by decide +kernel), ?_⟩
  replace h := zq_nx3 (q := 46) h rfl
  refine ⟨zq_k_n 42 h rfl (zq_o_42 _), ?_⟩
  replace h := zq_nx1 (q := 47) h rfl
  refine ⟨zq_k_u2 180 (fun z => .getfield z) 42 h rfl (zq_o_180 _) (by decide +kernel), ?_⟩
  replace h := zq_nx3 (q := 50) h rfl
  refine ⟨zq_k_n 3 h rfl (zq_o_3 _), ?_⟩
  replace h := zq_nx1 (q := 51) h rfl
  refine ⟨zq_k_u2 184 (fun z => .invokestatic z) 77 h rfl (zq_o_184 _) (by decide +kernel), ?_⟩
  replace h := zq_nx3 (q := 54) h rfl
  refine ⟨zq_k_n 42 h rfl (zq_o_42 _), ?_⟩
  replace h := zq_nx1 (q := 55) h rfl
  refine ⟨zq_k_u2 180 (fun z => .getfield z) 45 h rfl (zq_o_180 _) (by decide +kernel), ?_⟩
  replace h := zq_nx3 (q := 58) h rfl
  refine ⟨zq_k_n 3 h rfl (zq_o_3 _), ?_⟩
  replace h := zq_nx1 (q := 59) h rfl
  refine ⟨zq_k_u2 184 (fun z => .invokestatic z) 77 h rfl (zq_o_184 _) (by decide +kernel), ?_⟩
  replace h := zq_nx3 (q := 62) h rfl
  exact zq_k_n 177 h rfl (zq_o_177 _)
def f_Realm_empty_0  (a0 : Nat) (h : mH) : Option mH :=
  bd1 (pV h a0 4 0 (.int (0 : Int32))) fun h1 =>
  bd1 (pV h1 a0 4 1 (.int (0 : Int32))) fun h3 =>
  bd1 (pV h3 a0 4 2 (.int (0 : Int32))) fun h5 =>
  bd1 (pV h5 a0 4 3 (.int (0 : Int32))) fun h7 =>
  bd1 (pV h7 a0 4 4 (.int (0 : Int32))) fun h9 =>
  bd1 (pV h9 a0 4 5 (.int (0 : Int32))) fun h11 =>
  bd1 (gR h11 a0 4 18) fun x13 =>
  bd1 (pV h11 x13 6 0 (.int (0 : Int32))) fun h15 =>
  bd1 (gR h15 a0 4 15) fun x17 =>
  bd1 (f_Arrays_fillI x17 (0 : Int32) h15) fun h19 =>
  bd1 (gR h19 a0 4 16) fun x21 =>
  bd1 (f_Arrays_fillI x21 (0 : Int32) h19) fun h23 =>
  bd1 (gR h23 a0 4 17) fun x25 =>
  bd1 (f_Arrays_fillI x25 (0 : Int32) h23) fun h27 =>
  some h27
set_option maxRecDepth 20000 in
theorem t_Realm_empty_0 {sc : Nat × (Nat → Int32)}  (a0 : Nat) (h : mH) (h' : mH) (hf : f_Realm_empty_0  a0 h = some h') : G sc y_Realm_empty prog_5_method_2_code 1 none 1 23 0 [(0, .ref a0)] [] h none h' := by
  unfold f_Realm_empty_0 at hf
  refine g_aload_n (pc := 0) 0 dd_Realm_empty_0.1 rfl rfl ?_
  refine g_iconst (pc := 1) (0 : Int32) dd_Realm_empty_0.2.1 (by decide) ?_
  obtain ⟨h1, e2, hf⟩ := bd1_e hf
  refine g_put (pc := 2) (ci := 4) (kk := 0) ty_Realm tyok_Realm nm_Realm dd_Realm_empty_0.2.2.1 rfl in_Realm (by decide) wd_93 rfl (fun _ => rfl) (fun _ => rfl) (fun _ z => by cases z) e2 ?_
  refine g_aload_n (pc := 5) 0 dd_Realm_empty_0.2.2.2.1 rfl rfl ?_
  refine g_iconst (pc := 6) (0 : Int32) dd_Realm_empty_0.2.2.2.2.1 (by decide) ?_
  obtain ⟨h3, e4, hf⟩ := bd1_e hf
  refine g_put (pc := 7) (ci := 4) (kk := 1) ty_Realm tyok_Realm nm_Realm dd_Realm_empty_0.2.2.2.2.2.1 rfl in_Realm (by decide) wd_98 rfl (fun _ => rfl) (fun _ => rfl) (fun _ z => by cases z) e4 ?_
  refine g_aload_n (pc := 10) 0 dd_Realm_empty_0.2.2.2.2.2.2.1 rfl rfl ?_
  refine g_iconst (pc := 11) (0 : Int32) dd_Realm_empty_0.2.2.2.2.2.2.2.1 (by decide) ?_
  obtain ⟨h5, e6, hf⟩ := bd1_e hf
  refine g_put (pc := 12) (ci := 4) (kk := 2) ty_Realm tyok_Realm nm_Realm dd_Realm_empty_0.2.2.2.2.2.2.2.2.1 rfl in_Realm (by decide) wd_103 rfl (fun _ => rfl) (fun _ => rfl) (fun _ z => by cases z) e6 ?_
  refine g_aload_n (pc := 15) 0 dd_Realm_empty_0.2.2.2.2.2.2.2.2.2.1 rfl rfl ?_
  refine g_iconst (pc := 16) (0 : Int32) dd_Realm_empty_0.2.2.2.2.2.2.2.2.2.2.1 (by decide) ?_
  obtain ⟨h7, e8, hf⟩ := bd1_e hf
  refine g_put (pc := 17) (ci := 4) (kk := 3) ty_Realm tyok_Realm nm_Realm dd_Realm_empty_0.2.2.2.2.2.2.2.2.2.2.2.1 rfl in_Realm (by decide) wd_105 rfl (fun _ => rfl) (fun _ => rfl) (fun _ z => by cases z) e8 ?_
  refine g_aload_n (pc := 20) 0 dd_Realm_empty_0.2.2.2.2.2.2.2.2.2.2.2.2.1 rfl rfl ?_
  refine g_iconst (pc := 21) (0 : Int32) dd_Realm_empty_0.2.2.2.2.2.2.2.2.2.2.2.2.2.1 (by decide) ?_
  obtain ⟨h9, e10, hf⟩ := bd1_e hf
  refine g_put (pc := 22) (ci := 4) (kk := 4) ty_Realm tyok_Realm nm_Realm dd_Realm_empty_0.2.2.2.2.2.2.2.2.2.2.2.2.2.2.1 rfl in_Realm (by decide) wd_107 rfl (fun _ => rfl) (fun _ => rfl) (fun _ z => by cases z) e10 ?_
  refine g_aload_n (pc := 25) 0 dd_Realm_empty_0.2.2.2.2.2.2.2.2.2.2.2.2.2.2.2.1 rfl rfl ?_
  refine g_iconst (pc := 26) (0 : Int32) dd_Realm_empty_0.2.2.2.2.2.2.2.2.2.2.2.2.2.2.2.2.1 (by decide) ?_
  obtain ⟨h11, e12, hf⟩ := bd1_e hf
  refine g_put (pc := 27) (ci := 4) (kk := 5) ty_Realm tyok_Realm nm_Realm dd_Realm_empty_0.2.2.2.2.2.2.2.2.2.2.2.2.2.2.2.2.2.1 rfl in_Realm (by decide) wd_110 rfl (fun _ => rfl) (fun _ => rfl) (fun _ z => by cases z) e12 ?_
  refine g_aload_n (pc := 30) 0 dd_Realm_empty_0.2.2.2.2.2.2.2.2.2.2.2.2.2.2.2.2.2.2.1 rfl rfl ?_
  obtain ⟨x13, e14, hf⟩ := bd1_e hf
  refine g_get (pc := 31) (ci := 4) (kk := 18) dd_Realm_empty_0.2.2.2.2.2.2.2.2.2.2.2.2.2.2.2.2.2.2.2.1 rfl in_Realm (by decide) wd_153 (gR_spec e14) ?_
  refine g_iconst (pc := 34) (0 : Int32) dd_Realm_empty_0.2.2.2.2.2.2.2.2.2.2.2.2.2.2.2.2.2.2.2.2.1 (by decide) ?_
  obtain ⟨h15, e16, hf⟩ := bd1_e hf
  refine g_put (pc := 35) (ci := 6) (kk := 0) ty_Sightings tyok_Sightings nm_Sightings dd_Realm_empty_0.2.2.2.2.2.2.2.2.2.2.2.2.2.2.2.2.2.2.2.2.2.1 rfl in_Sightings (by decide) wd_78 rfl (fun _ => rfl) (fun _ => rfl) (fun _ z => by cases z) e16 ?_
  refine g_aload_n (pc := 38) 0 dd_Realm_empty_0.2.2.2.2.2.2.2.2.2.2.2.2.2.2.2.2.2.2.2.2.2.2.1 rfl rfl ?_
  obtain ⟨x17, e18, hf⟩ := bd1_e hf
  refine g_get (pc := 39) (ci := 4) (kk := 15) dd_Realm_empty_0.2.2.2.2.2.2.2.2.2.2.2.2.2.2.2.2.2.2.2.2.2.2.2 rfl in_Realm (by decide) wd_145 (gR_spec e18) ?_
  refine g_iconst (pc := 42) (0 : Int32) dd_Realm_empty_42.1 (by decide) ?_
  obtain ⟨h19, e20, hf⟩ := bd1_e hf
  refine g_callS (pc := 43) [.ref x17, .int (0 : Int32)] (site_of si_Arrays_fillI (by decide) (by decide)) wd_354 wd_355 dd_Realm_empty_42.2.1 (Nat.le_of_ble_eq_true rfl) (fun z => absurd z si_na_Arrays_fillI) (fun z => absurd z si_na_Arrays_fillI) (fun z => absurd z si_na_Arrays_fillI) (c_Arrays_fillI e20) rfl ?_
  refine g_st [] rfl ?_
  refine g_aload_n (pc := 46) 0 dd_Realm_empty_42.2.2.1 rfl rfl ?_
  obtain ⟨x21, e22, hf⟩ := bd1_e hf
  refine g_get (pc := 47) (ci := 4) (kk := 16) dd_Realm_empty_42.2.2.2.1 rfl in_Realm (by decide) wd_149 (gR_spec e22) ?_
  refine g_iconst (pc := 50) (0 : Int32) dd_Realm_empty_42.2.2.2.2.1 (by decide) ?_
  obtain ⟨h23, e24, hf⟩ := bd1_e hf
  refine g_callS (pc := 51) [.ref x21, .int (0 : Int32)] (site_of si_Arrays_fillI (by decide) (by decide)) wd_354 wd_355 dd_Realm_empty_42.2.2.2.2.2.1 (Nat.le_of_ble_eq_true rfl) (fun z => absurd z si_na_Arrays_fillI) (fun z => absurd z si_na_Arrays_fillI) (fun z => absurd z si_na_Arrays_fillI) (c_Arrays_fillI e24) rfl ?_
  refine g_st [] rfl ?_
  refine g_aload_n (pc := 54) 0 dd_Realm_empty_42.2.2.2.2.2.2.1 rfl rfl ?_
  obtain ⟨x25, e26, hf⟩ := bd1_e hf
  refine g_get (pc := 55) (ci := 4) (kk := 17) dd_Realm_empty_42.2.2.2.2.2.2.2.1 rfl in_Realm (by decide) wd_152 (gR_spec e26) ?_
  refine g_iconst (pc := 58) (0 : Int32) dd_Realm_empty_42.2.2.2.2.2.2.2.2.1 (by decide) ?_
  obtain ⟨h27, e28, hf⟩ := bd1_e hf
  refine g_callS (pc := 59) [.ref x25, .int (0 : Int32)] (site_of si_Arrays_fillI (by decide) (by decide)) wd_354 wd_355 dd_Realm_empty_42.2.2.2.2.2.2.2.2.2.1 (Nat.le_of_ble_eq_true rfl) (fun z => absurd z si_na_Arrays_fillI) (fun z => absurd z si_na_Arrays_fillI) (fun z => absurd z si_na_Arrays_fillI) (c_Arrays_fillI e28) rfl ?_
  refine g_st [] rfl ?_
  obtain rfl := ret1 hf
  exact g_vret (pc := 62) rfl dd_Realm_empty_42.2.2.2.2.2.2.2.2.2.2
def f_Realm_empty (a0 : Nat) (h : mH) : Option mH := f_Realm_empty_0 a0 h
theorem c_Realm_empty {sc : Nat × (Nat → Int32)} {a0 : Nat} {h : mH} {h' : mH} (hf : f_Realm_empty a0 h = some h') : MM sc y_Realm_empty prog_5_method_2_code 1 none 1 23 [.ref a0] h none h' :=
  mm_of_G si_pn_Realm (Nat.le_of_ble_eq_true rfl) (t_Realm_empty_0 _ _ _ hf)
/-! Reader passRun (II)V -/
set_option maxRecDepth 100000 in
theorem dd_Reader_passRun_0 : (decode prog_4_method_19_code 0 = .ok (.aload_n 0, 1)) ∧ (decode prog_4_method_19_code 1 = .ok (.getfield 33, 3)) ∧ (decode prog_4_method_19_code 4 = .ok (.aload_n 0, 1)) ∧ (decode prog_4_method_19_code 5 = .ok (.getfield 15, 3)) ∧ (decode prog_4_method_19_code 8 = .ok (.if_icmp .ge 42, 3)) ∧ (decode prog_4_method_19_code 11 = .ok (.aload_n 0, 1)) ∧ (decode prog_4_method_19_code 12 = .ok (.getfield 9, 3)) ∧ (decode prog_4_method_19_code 15 = .ok (.aload_n 0, 1)) ∧ (decode prog_4_method_19_code 16 = .ok (.getfield 33, 3)) ∧ (decode prog_4_method_19_code 19 = .ok (.baload, 1)) ∧ (decode prog_4_method_19_code 20 = .ok (.iload_n 1, 1)) ∧ (decode prog_4_method_19_code 21 = .ok (.if_icmp .lt 29, 3)) ∧ (decode prog_4_method_19_code 24 = .ok (.aload_n 0, 1)) ∧ (decode prog_4_method_19_code 25 = .ok (.getfield 9, 3)) ∧ (decode prog_4_method_19_code 28 = .ok (.aload_n 0, 1)) ∧ (decode prog_4_method_19_code 29 = .ok (.getfield 33, 3)) ∧ (decode prog_4_method_19_code 32 = .ok (.baload, 1)) ∧ (decode prog_4_method_19_code 33 = .ok (.iload_n 2, 1)) ∧ (decode prog_4_method_19_code 34 = .ok (.if_icmp .gt 16, 3)) ∧ (decode prog_4_method_19_code 37 = .ok (.aload_n 0, 1)) ∧ (decode prog_4_method_19_code 38 = .ok (.dup, 1)) ∧ (decode prog_4_method_19_code 39 = .ok (.getfield 33, 3)) ∧ (decode prog_4_method_19_code 42 = .ok (.iconst 1, 1)) ∧ (decode prog_4_method_19_code 43 = .ok (.iadd, 1)) := by
  have h : List.drop 0 prog_4_method_19_code.data.toList = 0x2a :: _ := rfl
  refine ⟨zq_k_n 42 h rfl (zq_o_42 _), ?_⟩
  replace h := zq_nx1 (q := 1) h rfl
  refine ⟨zq_k_u2 180 (fun z => .getfield z) 33 h rfl (zq_o_180 _) (by decide +kernel), ?_⟩
  replace h := zq_nx3 (q := 4) h rfl
  refine ⟨zq_k_n 42 h rfl (zq_o_42 _), ?_⟩
  replace h := zq_nx1 (q := 5) h rfl
  refine ⟨zq_k_u2 180 (fun z => .getfield z) 15 h rfl (zq_o_180 _) (by decide +kernel), ?_⟩
  replace h := zq_nx3 (q := 8) h rfl
  refine ⟨zq_k_s2 162 (fun z => .if_icmp .ge z) 42 h rfl (zq_o_162 _) (by decide +kernel), ?_⟩
  replace h := zq_nx3 (q := 11) h rfl
  refine ⟨zq_k_n 42 h rfl (zq_o_42 _), ?_⟩
  replace h := zq_nx1 (q := 12) h rfl
  refine ⟨zq_k_u2 180 (fun z => .getfield z) 9 h rfl (zq_o_180 _) (by decide +kernel), ?_⟩
  replace h := zq_nx3 (q := 15) h rfl
  refine ⟨zq_k_n 42 h rfl (zq_o_42 _), ?_⟩
  replace h := zq_nx1 (q := 16) h rfl
  refine ⟨zq_k_u2 180 (fun z => .getfield z) 33 h rfl (zq_o_180 _) (by decide +kernel), ?_⟩
  replace h := zq_nx3 (q := 19) h rfl
  refine ⟨zq_k_n 51 h rfl (zq_o_51 _), ?_⟩
  replace h := zq_nx1 (q := 20) h rfl
  refine ⟨zq_k_n 27 h rfl (zq_o_27 _), ?_⟩
  replace h := zq_nx1 (q := 21) h rfl
  refine ⟨zq_k_s2 161 (fun z => .if_icmp .lt z) 29 h rfl (zq_o_161 _) (by decide +kernel), ?_⟩
  replace h := zq_nx3 (q := 24) h rfl
  refine ⟨zq_k_n 42 h rfl (zq_o_42 _), ?_⟩
  replace h := zq_nx1 (q := 25) h rfl
  refine ⟨zq_k_u2 180 (fun z => .getfield z) 9 h rfl (zq_o_180 _) (by decide +kernel), ?_⟩
  replace h := zq_nx3 (q := 28) h rfl
  refine ⟨zq_k_n 42 h rfl (zq_o_42 _), ?_⟩
  replace h := zq_nx1 (q := 29) h rfl
  refine ⟨zq_k_u2 180 (fun z => .getfield z) 33 h rfl (zq_o_180 _) (by decide +kernel), ?_⟩
  replace h := zq_nx3 (q := 32) h rfl
  refine ⟨zq_k_n 51 h rfl (zq_o_51 _), ?_⟩
  replace h := zq_nx1 (q := 33) h rfl
  refine ⟨zq_k_n 28 h rfl (zq_o_28 _), ?_⟩
  replace h := zq_nx1 (q := 34) h rfl
  refine ⟨zq_k_s2 163 (fun z => .if_icmp .gt z) 16 h rfl (zq_o_163 _) (by decide +kernel), ?_⟩
  replace h := zq_nx3 (q := 37) h rfl
  refine ⟨zq_k_n 42 h rfl (zq_o_42 _), ?_⟩
  replace h := zq_nx1 (q := 38) h rfl
  refine ⟨zq_k_n 89 h rfl (zq_o_89 _), ?_⟩
  replace h := zq_nx1 (q := 39) h rfl
  refine ⟨zq_k_u2 180 (fun z => .getfield z) 33 h rfl (zq_o_180 _) (by decide +kernel), ?_⟩
  replace h := zq_nx3 (q := 42) h rfl
  refine ⟨zq_k_n 4 h rfl (zq_o_4 _), ?_⟩
  replace h := zq_nx1 (q := 43) h rfl
  exact zq_k_n 96 h rfl (zq_o_96 _)
set_option maxRecDepth 100000 in
theorem dd_Reader_passRun_44 : (decode prog_4_method_19_code 44 = .ok (.putfield 33, 3)) ∧ (decode prog_4_method_19_code 47 = .ok (.goto (-47), 3)) ∧ (decode prog_4_method_19_code 50 = .ok (.return_, 1)) := by
  have h : List.drop 44 prog_4_method_19_code.data.toList = 0xb5 :: _ := rfl
  refine ⟨zq_k_u2 181 (fun z => .putfield z) 33 h rfl (zq_o_181 _) (by decide +kernel), ?_⟩
  replace h := zq_nx3 (q := 47) h rfl
  refine ⟨zq_k_s2 167 (fun z => .goto z) (-47) h rfl (zq_o_167 _) (by decide +kernel), ?_⟩
  replace h := zq_nx3 (q := 50) h rfl
  exact zq_k_n 177 h rfl (zq_o_177 _)
def f_Reader_passRun_0b (rec0 : Nat → Int32 → Int32 → mH → Option mH) (b0 : Nat) (b1 : Int32) (b2 : Int32) (h : mH) : Option mH :=
  bd1 (gI h b0 3 5) fun x1 =>
  bd1 (gI h b0 3 1) fun x3 =>
  if x3 ≤ x1 then
    some h
  else
    bd1 (gR h b0 3 0) fun x5 =>
    bd1 (gI h b0 3 5) fun x7 =>
    bd1 (aI h 1 x5 x7) fun x9 =>
    if x9 < b1 then
      some h
    else
      bd1 (gR h b0 3 0) fun x11 =>
      bd1 (gI h b0 3 5) fun x13 =>
      bd1 (aI h 1 x11 x13) fun x15 =>
      if b2 < x15 then
        some h
      else
        bd1 (gI h b0 3 5) fun x17 =>
        bd1 (pV h b0 3 5 (.int (x17 + (1 : Int32)))) fun h19 =>
        rec0 b0 b1 b2 h19
set_option maxRecDepth 20000 in
theorem t_Reader_passRun_0b {sc : Nat × (Nat → Int32)} (rec0 : Nat → Int32 → Int32 → mH → Option mH) (hrec0 : ∀ (b0 : Nat) (b1 : Int32) (b2 : Int32) (h : mH) (h' : mH), rec0 b0 b1 b2 h = some h' → G sc y_Reader_passRun prog_4_method_19_code 3 none 0 0 0 [(0, .ref b0), (1, .int b1), (2, .int b2)] [] h none h') (b0 : Nat) (b1 : Int32) (b2 : Int32) (h : mH) (h' : mH) (hf : f_Reader_passRun_0b rec0 b0 b1 b2 h = some h') : G sc y_Reader_passRun prog_4_method_19_code 3 none 0 0 0 [(0, .ref b0), (1, .int b1), (2, .int b2)] [] h none h' := by
  unfold f_Reader_passRun_0b at hf
  refine g_aload_n (pc := 0) 0 dd_Reader_passRun_0.1 rfl rfl ?_
  obtain ⟨x1, e2, hf⟩ := bd1_e hf
  refine g_get (pc := 1) (ci := 3) (kk := 5) dd_Reader_passRun_0.2.1 rfl in_Reader (by decide) wd_41 (gI_spec e2) ?_
  refine g_aload_n (pc := 4) 0 dd_Reader_passRun_0.2.2.1 rfl rfl ?_
  obtain ⟨x3, e4, hf⟩ := bd1_e hf
  refine g_get (pc := 5) (ci := 3) (kk := 1) dd_Reader_passRun_0.2.2.2.1 rfl in_Reader (by decide) wd_33 (gI_spec e4) ?_
  refine g_icmpge (pc := 8) 50 dd_Reader_passRun_0.2.2.2.2.1 (by decide) (fun c23 => ?_) (fun c23 => ?_)
  · replace hf := (if_pos c23).symm.trans hf
    obtain rfl := ret1 hf
    exact g_vret (pc := 50) rfl dd_Reader_passRun_44.2.2
  · replace hf := (if_neg c23).symm.trans hf
    refine g_aload_n (pc := 11) 0 dd_Reader_passRun_0.2.2.2.2.2.1 rfl rfl ?_
    obtain ⟨x5, e6, hf⟩ := bd1_e hf
    refine g_get (pc := 12) (ci := 3) (kk := 0) dd_Reader_passRun_0.2.2.2.2.2.2.1 rfl in_Reader (by decide) wd_32 (gR_spec e6) ?_
    refine g_aload_n (pc := 15) 0 dd_Reader_passRun_0.2.2.2.2.2.2.2.1 rfl rfl ?_
    obtain ⟨x7, e8, hf⟩ := bd1_e hf
    refine g_get (pc := 16) (ci := 3) (kk := 5) dd_Reader_passRun_0.2.2.2.2.2.2.2.2.1 rfl in_Reader (by decide) wd_41 (gI_spec e8) ?_
    obtain ⟨x9, e10, hf⟩ := bd1_e hf
    refine g_bald (pc := 19) dd_Reader_passRun_0.2.2.2.2.2.2.2.2.2.1 e10 ?_
    refine g_iload_n (pc := 20) 1 dd_Reader_passRun_0.2.2.2.2.2.2.2.2.2.2.1 rfl rfl ?_
    refine g_icmplt (pc := 21) 50 dd_Reader_passRun_0.2.2.2.2.2.2.2.2.2.2.2.1 (by decide) (fun c22 => ?_) (fun c22 => ?_)
    · replace hf := (if_pos c22).symm.trans hf
      obtain rfl := ret1 hf
      exact g_vret (pc := 50) rfl dd_Reader_passRun_44.2.2
    · replace hf := (if_neg c22).symm.trans hf
      refine g_aload_n (pc := 24) 0 dd_Reader_passRun_0.2.2.2.2.2.2.2.2.2.2.2.2.1 rfl rfl ?_
      obtain ⟨x11, e12, hf⟩ := bd1_e hf
      refine g_get (pc := 25) (ci := 3) (kk := 0) dd_Reader_passRun_0.2.2.2.2.2.2.2.2.2.2.2.2.2.1 rfl in_Reader (by decide) wd_32 (gR_spec e12) ?_
      refine g_aload_n (pc := 28) 0 dd_Reader_passRun_0.2.2.2.2.2.2.2.2.2.2.2.2.2.2.1 rfl rfl ?_
      obtain ⟨x13, e14, hf⟩ := bd1_e hf
      refine g_get (pc := 29) (ci := 3) (kk := 5) dd_Reader_passRun_0.2.2.2.2.2.2.2.2.2.2.2.2.2.2.2.1 rfl in_Reader (by decide) wd_41 (gI_spec e14) ?_
      obtain ⟨x15, e16, hf⟩ := bd1_e hf
      refine g_bald (pc := 32) dd_Reader_passRun_0.2.2.2.2.2.2.2.2.2.2.2.2.2.2.2.2.1 e16 ?_
      refine g_iload_n (pc := 33) 2 dd_Reader_passRun_0.2.2.2.2.2.2.2.2.2.2.2.2.2.2.2.2.2.1 rfl rfl ?_
      refine g_icmpgt (pc := 34) 50 dd_Reader_passRun_0.2.2.2.2.2.2.2.2.2.2.2.2.2.2.2.2.2.2.1 (by decide) (fun c21 => ?_) (fun c21 => ?_)
      · replace hf := (if_pos c21).symm.trans hf
        obtain rfl := ret1 hf
        exact g_vret (pc := 50) rfl dd_Reader_passRun_44.2.2
      · replace hf := (if_neg c21).symm.trans hf
        refine g_aload_n (pc := 37) 0 dd_Reader_passRun_0.2.2.2.2.2.2.2.2.2.2.2.2.2.2.2.2.2.2.2.1 rfl rfl ?_
        refine g_dup (pc := 38) dd_Reader_passRun_0.2.2.2.2.2.2.2.2.2.2.2.2.2.2.2.2.2.2.2.2.1 rfl ?_
        obtain ⟨x17, e18, hf⟩ := bd1_e hf
        refine g_get (pc := 39) (ci := 3) (kk := 5) dd_Reader_passRun_0.2.2.2.2.2.2.2.2.2.2.2.2.2.2.2.2.2.2.2.2.2.1 rfl in_Reader (by decide) wd_41 (gI_spec e18) ?_
        refine g_iconst (pc := 42) (1 : Int32) dd_Reader_passRun_0.2.2.2.2.2.2.2.2.2.2.2.2.2.2.2.2.2.2.2.2.2.2.1 (by decide) ?_
        refine g_iadd (pc := 43) dd_Reader_passRun_0.2.2.2.2.2.2.2.2.2.2.2.2.2.2.2.2.2.2.2.2.2.2.2 ?_
        obtain ⟨h19, e20, hf⟩ := bd1_e hf
        refine g_put (pc := 44) (ci := 3) (kk := 5) ty_Reader tyok_Reader nm_Reader dd_Reader_passRun_44.1 rfl in_Reader (by decide) wd_41 rfl (fun _ => rfl) (fun _ => rfl) (fun _ z => by cases z) e20 ?_
        refine g_goto (pc := 47) 0 dd_Reader_passRun_44.2.1 (by decide) ?_
        refine g_lv [0, 1, 2] rfl ?_
        exact hrec0 _ _ _ _ _  hf
def f_Reader_passRun_0  : Nat → Nat → Int32 → Int32 → mH → Option mH
  | 0 => fun _ _ _ _ => none
  | n + 1 => f_Reader_passRun_0b  (f_Reader_passRun_0  n)
theorem t_Reader_passRun_0 {sc : Nat × (Nat → Int32)}  : ∀ (n : Nat) (b0 : Nat) (b1 : Int32) (b2 : Int32) (h : mH) (h' : mH) (hf : f_Reader_passRun_0  n b0 b1 b2 h = some h'), G sc y_Reader_passRun prog_4_method_19_code 3 none 0 0 0 [(0, .ref b0), (1, .int b1), (2, .int b2)] [] h none h'
  | 0, _, _, _, _, _, hf => by cases hf
  | n + 1, _, _, _, _, _, hf => t_Reader_passRun_0b  (f_Reader_passRun_0  n) (t_Reader_passRun_0  n) _ _ _ _ _ hf
def f_Reader_passRun (a0 : Nat) (a1 : Int32) (a2 : Int32) (h : mH) : Option mH := f_Reader_passRun_0 FU a0 a1 a2 h
theorem c_Reader_passRun {sc : Nat × (Nat → Int32)} {a0 : Nat} {a1 : Int32} {a2 : Int32} {h : mH} {h' : mH} (hf : f_Reader_passRun a0 a1 a2 h = some h') : MM sc y_Reader_passRun prog_4_method_19_code 3 none 0 0 [.ref a0, .int a1, .int a2] h none h' :=
  mm_of_G si_pn_Reader (Nat.le_of_ble_eq_true rfl) (t_Reader_passRun_0 FU _ _ _ _ _ hf)
/-! Reader kindHere ()I -/
set_option maxRecDepth 100000 in
theorem dd_Reader_kindHere_0 : (decode prog_4_method_18_code 0 = .ok (.aload_n 0, 1)) ∧ (decode prog_4_method_18_code 1 = .ok (.getfield 33, 3)) ∧ (decode prog_4_method_18_code 4 = .ok (.aload_n 0, 1)) ∧ (decode prog_4_method_18_code 5 = .ok (.getfield 15, 3)) ∧ (decode prog_4_method_18_code 8 = .ok (.if_icmp .lt 5, 3)) ∧ (decode prog_4_method_18_code 11 = .ok (.iconst 0, 1)) ∧ (decode prog_4_method_18_code 12 = .ok (.ireturn, 1)) ∧ (decode prog_4_method_18_code 13 = .ok (.aload_n 0, 1)) ∧ (decode prog_4_method_18_code 14 = .ok (.getfield 9, 3)) ∧ (decode prog_4_method_18_code 17 = .ok (.aload_n 0, 1)) ∧ (decode prog_4_method_18_code 18 = .ok (.getfield 33, 3)) ∧ (decode prog_4_method_18_code 21 = .ok (.baload, 1)) ∧ (decode prog_4_method_18_code 22 = .ok (.istore_n 1, 1)) ∧ (decode prog_4_method_18_code 23 = .ok (.iload_n 1, 1)) ∧ (decode prog_4_method_18_code 24 = .ok (.bipush 59, 2)) ∧ (decode prog_4_method_18_code 26 = .ok (.if_icmp .ne 5, 3)) ∧ (decode prog_4_method_18_code 29 = .ok (.iconst 3, 1)) ∧ (decode prog_4_method_18_code 30 = .ok (.ireturn, 1)) ∧ (decode prog_4_method_18_code 31 = .ok (.iload_n 1, 1)) ∧ (decode prog_4_method_18_code 32 = .ok (.bipush 97, 2)) ∧ (decode prog_4_method_18_code 34 = .ok (.if_icmp .lt 11, 3)) ∧ (decode prog_4_method_18_code 37 = .ok (.iload_n 1, 1)) ∧ (decode prog_4_method_18_code 38 = .ok (.bipush 122, 2)) ∧ (decode prog_4_method_18_code 40 = .ok (.if_icmp .gt 5, 3)) := by
  have h : List.drop 0 prog_4_method_18_code.data.toList = 0x2a :: _ := rfl
  refine ⟨zq_k_n 42 h rfl (zq_o_42 _), ?_⟩
  replace h := zq_nx1 (q := 1) h rfl
  refine ⟨zq_k_u2 180 (fun z => .getfield z) 33 h rfl (zq_o_180 _) (by decide +kernel), ?_⟩
  replace h := zq_nx3 (q := 4) h rfl
  refine ⟨zq_k_n 42 h rfl (zq_o_42 _), ?_⟩
  replace h := zq_nx1 (q := 5) h rfl
  refine ⟨zq_k_u2 180 (fun z => .getfield z) 15 h rfl (zq_o_180 _) (by decide +kernel), ?_⟩
  replace h := zq_nx3 (q := 8) h rfl
  refine ⟨zq_k_s2 161 (fun z => .if_icmp .lt z) 5 h rfl (zq_o_161 _) (by decide +kernel), ?_⟩
  replace h := zq_nx3 (q := 11) h rfl
  refine ⟨zq_k_n 3 h rfl (zq_o_3 _), ?_⟩
  replace h := zq_nx1 (q := 12) h rfl
  refine ⟨zq_k_n 172 h rfl (zq_o_172 _), ?_⟩
  replace h := zq_nx1 (q := 13) h rfl
  refine ⟨zq_k_n 42 h rfl (zq_o_42 _), ?_⟩
  replace h := zq_nx1 (q := 14) h rfl
  refine ⟨zq_k_u2 180 (fun z => .getfield z) 9 h rfl (zq_o_180 _) (by decide +kernel), ?_⟩
  replace h := zq_nx3 (q := 17) h rfl
  refine ⟨zq_k_n 42 h rfl (zq_o_42 _), ?_⟩
  replace h := zq_nx1 (q := 18) h rfl
  refine ⟨zq_k_u2 180 (fun z => .getfield z) 33 h rfl (zq_o_180 _) (by decide +kernel), ?_⟩
  replace h := zq_nx3 (q := 21) h rfl
  refine ⟨zq_k_n 51 h rfl (zq_o_51 _), ?_⟩
  replace h := zq_nx1 (q := 22) h rfl
  refine ⟨zq_k_n 60 h rfl (zq_o_60 _), ?_⟩
  replace h := zq_nx1 (q := 23) h rfl
  refine ⟨zq_k_n 27 h rfl (zq_o_27 _), ?_⟩
  replace h := zq_nx1 (q := 24) h rfl
  refine ⟨zq_k_s1 16 (fun z => .bipush z) 59 h rfl (zq_o_16 _) (by decide +kernel), ?_⟩
  replace h := zq_nx2 (q := 26) h rfl
  refine ⟨zq_k_s2 160 (fun z => .if_icmp .ne z) 5 h rfl (zq_o_160 _) (by decide +kernel), ?_⟩
  replace h := zq_nx3 (q := 29) h rfl
  refine ⟨zq_k_n 6 h rfl (zq_o_6 _), ?_⟩
  replace h := zq_nx1 (q := 30) h rfl
  refine ⟨zq_k_n 172 h rfl (zq_o_172 _), ?_⟩
  replace h := zq_nx1 (q := 31) h rfl
  refine ⟨zq_k_n 27 h rfl (zq_o_27 _), ?_⟩
  replace h := zq_nx1 (q := 32) h rfl
  refine ⟨zq_k_s1 16 (fun z => .bipush z) 97 h rfl (zq_o_16 _) (by decide +kernel), ?_⟩
  replace h := zq_nx2 (q := 34) h rfl
  refine ⟨zq_k_s2 161 (fun z => .if_icmp .lt z) 11 h rfl (zq_o_161 _) (by decide +kernel), ?_⟩
  replace h := zq_nx3 (q := 37) h rfl
  refine ⟨zq_k_n 27 h rfl (zq_o_27 _), ?_⟩
  replace h := zq_nx1 (q := 38) h rfl
  refine ⟨zq_k_s1 16 (fun z => .bipush z) 122 h rfl (zq_o_16 _) (by decide +kernel), ?_⟩
  replace h := zq_nx2 (q := 40) h rfl
  exact zq_k_s2 163 (fun z => .if_icmp .gt z) 5 h rfl (zq_o_163 _) (by decide +kernel)
set_option maxRecDepth 100000 in
theorem dd_Reader_kindHere_43 : (decode prog_4_method_18_code 43 = .ok (.iconst 1, 1)) ∧ (decode prog_4_method_18_code 44 = .ok (.ireturn, 1)) ∧ (decode prog_4_method_18_code 45 = .ok (.iload_n 1, 1)) ∧ (decode prog_4_method_18_code 46 = .ok (.bipush 48, 2)) ∧ (decode prog_4_method_18_code 48 = .ok (.if_icmp .lt 13, 3)) ∧ (decode prog_4_method_18_code 51 = .ok (.iload_n 1, 1)) ∧ (decode prog_4_method_18_code 52 = .ok (.bipush 57, 2)) ∧ (decode prog_4_method_18_code 54 = .ok (.if_icmp .gt 7, 3)) ∧ (decode prog_4_method_18_code 57 = .ok (.iconst 2, 1)) ∧ (decode prog_4_method_18_code 58 = .ok (.goto 4, 3)) ∧ (decode prog_4_method_18_code 61 = .ok (.iconst 4, 1)) ∧ (decode prog_4_method_18_code 62 = .ok (.ireturn, 1)) := by
  have h : List.drop 43 prog_4_method_18_code.data.toList = 0x04 :: _ := rfl
  refine ⟨zq_k_n 4 h rfl (zq_o_4 _), ?_⟩
  replace h := zq_nx1 (q := 44) h rfl
  refine ⟨zq_k_n 172 h rfl (zq_o_172 _), ?_⟩
  replace h := zq_nx1 (q := 45) h rfl
  refine ⟨zq_k_n 27 h rfl (zq_o_27 _), ?_⟩
  replace h := zq_nx1 (q := 46) h rfl
  refine ⟨zq_k_s1 16 (fun z => .bipush z) 48 h rfl (zq_o_16 _) (by decide +kernel), ?_⟩
  replace h := zq_nx2 (q := 48) h rfl
  refine ⟨zq_k_s2 161 (fun z => .if_icmp .lt z) 13 h rfl (zq_o_161 _) (by decide +kernel), ?_⟩
  replace h := zq_nx3 (q := 51) h rfl
  refine ⟨zq_k_n 27 h rfl (zq_o_27 _), ?_⟩
  replace h := zq_nx1 (q := 52) h rfl
  refine ⟨zq_k_s1 16 (fun z => .bipush z) 57 h rfl (zq_o_16 _) (by decide +kernel), ?_⟩
  replace h := zq_nx2 (q := 54) h rfl
  refine ⟨zq_k_s2 163 (fun z => .if_icmp .gt z) 7 h rfl (zq_o_163 _) (by decide +kernel), ?_⟩
  replace h := zq_nx3 (q := 57) h rfl
  refine ⟨zq_k_n 5 h rfl (zq_o_5 _), ?_⟩
  replace h := zq_nx1 (q := 58) h rfl
  refine ⟨zq_k_s2 167 (fun z => .goto z) 4 h rfl (zq_o_167 _) (by decide +kernel), ?_⟩
  replace h := zq_nx3 (q := 61) h rfl
  refine ⟨zq_k_n 7 h rfl (zq_o_7 _), ?_⟩
  replace h := zq_nx1 (q := 62) h rfl
  exact zq_k_n 172 h rfl (zq_o_172 _)
def f_Reader_kindHere_61   (h : mH) : Option (Int32 × mH) :=
  some ((4 : Int32), h)
set_option maxRecDepth 20000 in
theorem t_Reader_kindHere_61 {sc : Nat × (Nat → Int32)}   (h : mH) (r : Int32) (h' : mH) (hf : f_Reader_kindHere_61   h = some (r, h')) : G sc y_Reader_kindHere prog_4_method_18_code 2 (some .int) 0 0 61 [] [] h (some (.int r)) h' := by
  unfold f_Reader_kindHere_61 at hf
  refine g_iconst (pc := 61) (4 : Int32) dd_Reader_kindHere_43.2.2.2.2.2.2.2.2.2.2.1 (by decide) ?_
  obtain ⟨rfl, rfl⟩ := ret2 hf
  exact g_iret (pc := 62) rfl dd_Reader_kindHere_43.2.2.2.2.2.2.2.2.2.2.2
def f_Reader_kindHere_45  (b1 : Int32) (h : mH) : Option (Int32 × mH) :=
  if b1 < (48 : Int32) then
    f_Reader_kindHere_61  h
  else
    if (57 : Int32) < b1 then
      f_Reader_kindHere_61  h
    else
      some ((2 : Int32), h)
set_option maxRecDepth 20000 in
theorem t_Reader_kindHere_45 {sc : Nat × (Nat → Int32)}  (b1 : Int32) (h : mH) (r : Int32) (h' : mH) (hf : f_Reader_kindHere_45  b1 h = some (r, h')) : G sc y_Reader_kindHere prog_4_method_18_code 2 (some .int) 0 0 45 [(1, .int b1)] [] h (some (.int r)) h' := by
  unfold f_Reader_kindHere_45 at hf
  refine g_iload_n (pc := 45) 0 dd_Reader_kindHere_43.2.2.1 rfl rfl ?_
  refine g_bipush (pc := 46) (48 : Int32) dd_Reader_kindHere_43.2.2.2.1 (by decide) ?_
  refine g_icmplt (pc := 48) 61 dd_Reader_kindHere_43.2.2.2.2.1 (by decide) (fun c16 => ?_) (fun c16 => ?_)
  · replace hf := (if_pos c16).symm.trans hf
    refine g_lv [] rfl ?_
    exact t_Reader_kindHere_61  _ _ _  hf
  · replace hf := (if_neg c16).symm.trans hf
    refine g_iload_n (pc := 51) 0 dd_Reader_kindHere_43.2.2.2.2.2.1 rfl rfl ?_
    refine g_bipush (pc := 52) (57 : Int32) dd_Reader_kindHere_43.2.2.2.2.2.2.1 (by decide) ?_
    refine g_icmpgt (pc := 54) 61 dd_Reader_kindHere_43.2.2.2.2.2.2.2.1 (by decide) (fun c15 => ?_) (fun c15 => ?_)
    · replace hf := (if_pos c15).symm.trans hf
      refine g_lv [] rfl ?_
      exact t_Reader_kindHere_61  _ _ _  hf
    · replace hf := (if_neg c15).symm.trans hf
      refine g_iconst (pc := 57) (2 : Int32) dd_Reader_kindHere_43.2.2.2.2.2.2.2.2.1 (by decide) ?_
      refine g_goto (pc := 58) 62 dd_Reader_kindHere_43.2.2.2.2.2.2.2.2.2.1 (by decide) ?_
      obtain ⟨rfl, rfl⟩ := ret2 hf
      exact g_iret (pc := 62) rfl dd_Reader_kindHere_43.2.2.2.2.2.2.2.2.2.2.2
def f_Reader_kindHere_0  (a0 : Nat) (h : mH) : Option (Int32 × mH) :=
  bd1 (gI h a0 3 5) fun x1 =>
  bd1 (gI h a0 3 1) fun x3 =>
  if x1 < x3 then
    bd1 (gR h a0 3 0) fun x5 =>
    bd1 (gI h a0 3 5) fun x7 =>
    bd1 (aI h 1 x5 x7) fun x9 =>
    if x9 = (59 : Int32) then
      some ((3 : Int32), h)
    else
      if x9 < (97 : Int32) then
        f_Reader_kindHere_45  x9 h
      else
        if (122 : Int32) < x9 then
          f_Reader_kindHere_45  x9 h
        else
          some ((1 : Int32), h)
  else
    some ((0 : Int32), h)
set_option maxRecDepth 20000 in
theorem t_Reader_kindHere_0 {sc : Nat × (Nat → Int32)}  (a0 : Nat) (h : mH) (r : Int32) (h' : mH) (hf : f_Reader_kindHere_0  a0 h = some (r, h')) : G sc y_Reader_kindHere prog_4_method_18_code 2 (some .int) 0 0 0 [(0, .ref a0)] [] h (some (.int r)) h' := by
  unfold f_Reader_kindHere_0 at hf
  refine g_aload_n (pc := 0) 0 dd_Reader_kindHere_0.1 rfl rfl ?_
  obtain ⟨x1, e2, hf⟩ := bd1_e hf
  refine g_get (pc := 1) (ci := 3) (kk := 5) dd_Reader_kindHere_0.2.1 rfl in_Reader (by decide) wd_41 (gI_spec e2) ?_
  refine g_aload_n (pc := 4) 0 dd_Reader_kindHere_0.2.2.1 rfl rfl ?_
  obtain ⟨x3, e4, hf⟩ := bd1_e hf
  refine g_get (pc := 5) (ci := 3) (kk := 1) dd_Reader_kindHere_0.2.2.2.1 rfl in_Reader (by decide) wd_33 (gI_spec e4) ?_
  refine g_icmplt (pc := 8) 13 dd_Reader_kindHere_0.2.2.2.2.1 (by decide) (fun c14 => ?_) (fun c14 => ?_)
  · replace hf := (if_pos c14).symm.trans hf
    refine g_aload_n (pc := 13) 0 dd_Reader_kindHere_0.2.2.2.2.2.2.2.1 rfl rfl ?_
    obtain ⟨x5, e6, hf⟩ := bd1_e hf
    refine g_get (pc := 14) (ci := 3) (kk := 0) dd_Reader_kindHere_0.2.2.2.2.2.2.2.2.1 rfl in_Reader (by decide) wd_32 (gR_spec e6) ?_
    refine g_aload_n (pc := 17) 0 dd_Reader_kindHere_0.2.2.2.2.2.2.2.2.2.1 rfl rfl ?_
    obtain ⟨x7, e8, hf⟩ := bd1_e hf
    refine g_get (pc := 18) (ci := 3) (kk := 5) dd_Reader_kindHere_0.2.2.2.2.2.2.2.2.2.2.1 rfl in_Reader (by decide) wd_41 (gI_spec e8) ?_
    obtain ⟨x9, e10, hf⟩ := bd1_e hf
    refine g_bald (pc := 21) dd_Reader_kindHere_0.2.2.2.2.2.2.2.2.2.2.2.1 e10 ?_
    refine g_istore_n (pc := 22) [(1, .int x9), (0, .ref a0)] dd_Reader_kindHere_0.2.2.2.2.2.2.2.2.2.2.2.2.1 rfl (Nat.le_of_ble_eq_true rfl) rfl ?_
    refine g_iload_n (pc := 23) 0 dd_Reader_kindHere_0.2.2.2.2.2.2.2.2.2.2.2.2.2.1 rfl rfl ?_
    refine g_bipush (pc := 24) (59 : Int32) dd_Reader_kindHere_0.2.2.2.2.2.2.2.2.2.2.2.2.2.2.1 (by decide) ?_
    refine g_icmpne (pc := 26) 31 dd_Reader_kindHere_0.2.2.2.2.2.2.2.2.2.2.2.2.2.2.2.1 (by decide) (fun c13 => ?_) (fun c13 => ?_)
    · replace hf := (if_neg c13).symm.trans hf
      refine g_iload_n (pc := 31) 0 dd_Reader_kindHere_0.2.2.2.2.2.2.2.2.2.2.2.2.2.2.2.2.2.2.1 rfl rfl ?_
      refine g_bipush (pc := 32) (97 : Int32) dd_Reader_kindHere_0.2.2.2.2.2.2.2.2.2.2.2.2.2.2.2.2.2.2.2.1 (by decide) ?_
      refine g_icmplt (pc := 34) 45 dd_Reader_kindHere_0.2.2.2.2.2.2.2.2.2.2.2.2.2.2.2.2.2.2.2.2.1 (by decide) (fun c12 => ?_) (fun c12 => ?_)
      · replace hf := (if_pos c12).symm.trans hf
        refine g_lv [0] rfl ?_
        exact t_Reader_kindHere_45  _ _ _ _  hf
      · replace hf := (if_neg c12).symm.trans hf
        refine g_iload_n (pc := 37) 0 dd_Reader_kindHere_0.2.2.2.2.2.2.2.2.2.2.2.2.2.2.2.2.2.2.2.2.2.1 rfl rfl ?_
        refine g_bipush (pc := 38) (122 : Int32) dd_Reader_kindHere_0.2.2.2.2.2.2.2.2.2.2.2.2.2.2.2.2.2.2.2.2.2.2.1 (by decide) ?_
        refine g_icmpgt (pc := 40) 45 dd_Reader_kindHere_0.2.2.2.2.2.2.2.2.2.2.2.2.2.2.2.2.2.2.2.2.2.2.2 (by decide) (fun c11 => ?_) (fun c11 => ?_)
        · replace hf := (if_pos c11).symm.trans hf
          refine g_lv [0] rfl ?_
          exact t_Reader_kindHere_45  _ _ _ _  hf
        · replace hf := (if_neg c11).symm.trans hf
          refine g_iconst (pc := 43) (1 : Int32) dd_Reader_kindHere_43.1 (by decide) ?_
          obtain ⟨rfl, rfl⟩ := ret2 hf
          exact g_iret (pc := 44) rfl dd_Reader_kindHere_43.2.1
    · replace hf := (if_pos c13).symm.trans hf
      refine g_iconst (pc := 29) (3 : Int32) dd_Reader_kindHere_0.2.2.2.2.2.2.2.2.2.2.2.2.2.2.2.2.1 (by decide) ?_
      obtain ⟨rfl, rfl⟩ := ret2 hf
      exact g_iret (pc := 30) rfl dd_Reader_kindHere_0.2.2.2.2.2.2.2.2.2.2.2.2.2.2.2.2.2.1
  · replace hf := (if_neg c14).symm.trans hf
    refine g_iconst (pc := 11) (0 : Int32) dd_Reader_kindHere_0.2.2.2.2.2.1 (by decide) ?_
    obtain ⟨rfl, rfl⟩ := ret2 hf
    exact g_iret (pc := 12) rfl dd_Reader_kindHere_0.2.2.2.2.2.2.1
def f_Reader_kindHere (a0 : Nat) (h : mH) : Option (Int32 × mH) := f_Reader_kindHere_0 a0 h
theorem c_Reader_kindHere {sc : Nat × (Nat → Int32)} {a0 : Nat} {h : mH} {r : Int32} {h' : mH} (hf : f_Reader_kindHere a0 h = some (r, h')) : MM sc y_Reader_kindHere prog_4_method_18_code 2 (some .int) 0 0 [.ref a0] h (some (.int r)) h' :=
  mm_of_G si_pn_Reader (Nat.le_of_ble_eq_true rfl) (t_Reader_kindHere_0 _ _ _ _ hf)
/-! Reader valueOfRun ()I -/
set_option maxRecDepth 100000 in
theorem dd_Reader_valueOfRun_0 : (decode prog_4_method_20_code 0 = .ok (.iconst 0, 1)) ∧ (decode prog_4_method_20_code 1 = .ok (.istore_n 1, 1)) ∧ (decode prog_4_method_20_code 2 = .ok (.aload_n 0, 1)) ∧ (decode prog_4_method_20_code 3 = .ok (.getfield 85, 3)) ∧ (decode prog_4_method_20_code 6 = .ok (.istore_n 2, 1)) ∧ (decode prog_4_method_20_code 7 = .ok (.iload_n 2, 1)) ∧ (decode prog_4_method_20_code 8 = .ok (.aload_n 0, 1)) ∧ (decode prog_4_method_20_code 9 = .ok (.getfield 33, 3)) ∧ (decode prog_4_method_20_code 12 = .ok (.if_icmp .ge 24, 3)) ∧ (decode prog_4_method_20_code 15 = .ok (.iload_n 1, 1)) ∧ (decode prog_4_method_20_code 16 = .ok (.bipush 10, 2)) ∧ (decode prog_4_method_20_code 18 = .ok (.imul, 1)) ∧ (decode prog_4_method_20_code 19 = .ok (.aload_n 0, 1)) ∧ (decode prog_4_method_20_code 20 = .ok (.getfield 9, 3)) ∧ (decode prog_4_method_20_code 23 = .ok (.iload_n 2, 1)) ∧ (decode prog_4_method_20_code 24 = .ok (.baload, 1)) ∧ (decode prog_4_method_20_code 25 = .ok (.iadd, 1)) ∧ (decode prog_4_method_20_code 26 = .ok (.bipush 48, 2)) ∧ (decode prog_4_method_20_code 28 = .ok (.isub, 1)) ∧ (decode prog_4_method_20_code 29 = .ok (.istore_n 1, 1)) ∧ (decode prog_4_method_20_code 30 = .ok (.iinc 2 1, 3)) ∧ (decode prog_4_method_20_code 33 = .ok (.goto (-26), 3)) ∧ (decode prog_4_method_20_code 36 = .ok (.iload_n 1, 1)) ∧ (decode prog_4_method_20_code 37 = .ok (.ireturn, 1)) := by
  have h : List.drop 0 prog_4_method_20_code.data.toList = 0x03 :: _ := rfl
  refine ⟨zq_k_n 3 h rfl (zq_o_3 _), ?_⟩
  replace h := zq_nx1 (q := 1) h rfl
  refine ⟨zq_k_n 60 h rfl (zq_o_60 _), ?_⟩
  replace h := zq_nx1 (q := 2) h rfl
  refine ⟨zq_k_n 42 h rfl (zq_o_42 _), ?_⟩
  replace h := zq_nx1 (q := 3) h rfl
  refine ⟨zq_k_u2 180 (fun z => .getfield z) 85 h rfl (zq_o_180 _) (by decide +kernel), ?_⟩
  replace h := zq_nx3 (q := 6) h rfl
  refine ⟨zq_k_n 61 h rfl (zq_o_61 _), ?_⟩
  replace h := zq_nx1 (q := 7) h rfl
  refine ⟨zq_k_n 28 h rfl (zq_o_28 _), ?_⟩
  replace h := zq_nx1 (q := 8) h rfl
  refine ⟨zq_k_n 42 h rfl (zq_o_42 _), ?_⟩
  replace h := zq_nx1 (q := 9) h rfl
  refine ⟨zq_k_u2 180 (fun z => .getfield z) 33 h rfl (zq_o_180 _) (by decide +kernel), ?_⟩
  replace h := zq_nx3 (q := 12) h rfl
  refine ⟨zq_k_s2 162 (fun z => .if_icmp .ge z) 24 h rfl (zq_o_162 _) (by decide +kernel), ?_⟩
  replace h := zq_nx3 (q := 15) h rfl
  refine ⟨zq_k_n 27 h rfl (zq_o_27 _), ?_⟩
  replace h := zq_nx1 (q := 16) h rfl
  refine ⟨zq_k_s1 16 (fun z => .bipush z) 10 h rfl (zq_o_16 _) (by decide +kernel), ?_⟩
  replace h := zq_nx2 (q := 18) h rfl
  refine ⟨zq_k_n 104 h rfl (zq_o_104 _), ?_⟩
  replace h := zq_nx1 (q := 19) h rfl
  refine ⟨zq_k_n 42 h rfl (zq_o_42 _), ?_⟩
  replace h := zq_nx1 (q := 20) h rfl
  refine ⟨zq_k_u2 180 (fun z => .getfield z) 9 h rfl (zq_o_180 _) (by decide +kernel), ?_⟩
  replace h := zq_nx3 (q := 23) h rfl
  refine ⟨zq_k_n 28 h rfl (zq_o_28 _), ?_⟩
  replace h := zq_nx1 (q := 24) h rfl
  refine ⟨zq_k_n 51 h rfl (zq_o_51 _), ?_⟩
  replace h := zq_nx1 (q := 25) h rfl
  refine ⟨zq_k_n 96 h rfl (zq_o_96 _), ?_⟩
  replace h := zq_nx1 (q := 26) h rfl
  refine ⟨zq_k_s1 16 (fun z => .bipush z) 48 h rfl (zq_o_16 _) (by decide +kernel), ?_⟩
  replace h := zq_nx2 (q := 28) h rfl
  refine ⟨zq_k_n 100 h rfl (zq_o_100 _), ?_⟩
  replace h := zq_nx1 (q := 29) h rfl
  refine ⟨zq_k_n 60 h rfl (zq_o_60 _), ?_⟩
  replace h := zq_nx1 (q := 30) h rfl
  refine ⟨zq_k_iinc 2 1 h rfl (zq_o_132 _) (by decide +kernel) (by decide +kernel), ?_⟩
  replace h := zq_nx3 (q := 33) h rfl
  refine ⟨zq_k_s2 167 (fun z => .goto z) (-26) h rfl (zq_o_167 _) (by decide +kernel), ?_⟩
  replace h := zq_nx3 (q := 36) h rfl
  refine ⟨zq_k_n 27 h rfl (zq_o_27 _), ?_⟩
  replace h := zq_nx1 (q := 37) h rfl
  exact zq_k_n 172 h rfl (zq_o_172 _)
def f_Reader_valueOfRun_7b (rec7 : Nat → Int32 → Int32 → mH → Option (Int32 × mH)) (b0 : Nat) (b1 : Int32) (b2 : Int32) (h : mH) : Option (Int32 × mH) :=
  bd1 (gI h b0 3 5) fun x3 =>
  if x3 ≤ b2 then
    some (b1, h)
  else
    bd1 (gR h b0 3 0) fun x5 =>
    bd1 (aI h 1 x5 b2) fun x7 =>
    rec7 b0 (((b1 * (10 : Int32)) + x7) - (48 : Int32)) (b2 + (1 : Int32)) h
set_option maxRecDepth 20000 in
theorem t_Reader_valueOfRun_7b {sc : Nat × (Nat → Int32)} (rec7 : Nat → Int32 → Int32 → mH → Option (Int32 × mH)) (hrec7 : ∀ (b0 : Nat) (b1 : Int32) (b2 : Int32) (h : mH) (r : Int32) (h' : mH), rec7 b0 b1 b2 h = some (r, h') → G sc y_Reader_valueOfRun prog_4_method_20_code 3 (some .int) 0 0 7 [(0, .ref b0), (1, .int b1), (2, .int b2)] [] h (some (.int r)) h') (b0 : Nat) (b1 : Int32) (b2 : Int32) (h : mH) (r : Int32) (h' : mH) (hf : f_Reader_valueOfRun_7b rec7 b0 b1 b2 h = some (r, h')) : G sc y_Reader_valueOfRun prog_4_method_20_code 3 (some .int) 0 0 7 [(0, .ref b0), (1, .int b1), (2, .int b2)] [] h (some (.int r)) h' := by
  unfold f_Reader_valueOfRun_7b at hf
  refine g_iload_n (pc := 7) 2 dd_Reader_valueOfRun_0.2.2.2.2.2.1 rfl rfl ?_
  refine g_aload_n (pc := 8) 0 dd_Reader_valueOfRun_0.2.2.2.2.2.2.1 rfl rfl ?_
  obtain ⟨x3, e4, hf⟩ := bd1_e hf
  refine g_get (pc := 9) (ci := 3) (kk := 5) dd_Reader_valueOfRun_0.2.2.2.2.2.2.2.1 rfl in_Reader (by decide) wd_41 (gI_spec e4) ?_
  refine g_icmpge (pc := 12) 36 dd_Reader_valueOfRun_0.2.2.2.2.2.2.2.2.1 (by decide) (fun c9 => ?_) (fun c9 => ?_)
  · replace hf := (if_pos c9).symm.trans hf
    refine g_iload_n (pc := 36) 1 dd_Reader_valueOfRun_0.2.2.2.2.2.2.2.2.2.2.2.2.2.2.2.2.2.2.2.2.2.2.1 rfl rfl ?_
    obtain ⟨rfl, rfl⟩ := ret2 hf
    exact g_iret (pc := 37) rfl dd_Reader_valueOfRun_0.2.2.2.2.2.2.2.2.2.2.2.2.2.2.2.2.2.2.2.2.2.2.2
  · replace hf := (if_neg c9).symm.trans hf
    refine g_iload_n (pc := 15) 1 dd_Reader_valueOfRun_0.2.2.2.2.2.2.2.2.2.1 rfl rfl ?_
    refine g_bipush (pc := 16) (10 : Int32) dd_Reader_valueOfRun_0.2.2.2.2.2.2.2.2.2.2.1 (by decide) ?_
    refine g_imul (pc := 18) dd_Reader_valueOfRun_0.2.2.2.2.2.2.2.2.2.2.2.1 ?_
    refine g_aload_n (pc := 19) 0 dd_Reader_valueOfRun_0.2.2.2.2.2.2.2.2.2.2.2.2.1 rfl rfl ?_
    obtain ⟨x5, e6, hf⟩ := bd1_e hf
    refine g_get (pc := 20) (ci := 3) (kk := 0) dd_Reader_valueOfRun_0.2.2.2.2.2.2.2.2.2.2.2.2.2.1 rfl in_Reader (by decide) wd_32 (gR_spec e6) ?_
    refine g_iload_n (pc := 23) 2 dd_Reader_valueOfRun_0.2.2.2.2.2.2.2.2.2.2.2.2.2.2.1 rfl rfl ?_
    obtain ⟨x7, e8, hf⟩ := bd1_e hf
    refine g_bald (pc := 24) dd_Reader_valueOfRun_0.2.2.2.2.2.2.2.2.2.2.2.2.2.2.2.1 e8 ?_
    refine g_iadd (pc := 25) dd_Reader_valueOfRun_0.2.2.2.2.2.2.2.2.2.2.2.2.2.2.2.2.1 ?_
    refine g_bipush (pc := 26) (48 : Int32) dd_Reader_valueOfRun_0.2.2.2.2.2.2.2.2.2.2.2.2.2.2.2.2.2.1 (by decide) ?_
    refine g_isub (pc := 28) dd_Reader_valueOfRun_0.2.2.2.2.2.2.2.2.2.2.2.2.2.2.2.2.2.2.1 ?_
    refine g_istore_n (pc := 29) [(1, .int (((b1 * (10 : Int32)) + x7) - (48 : Int32))), (0, .ref b0), (2, .int b2)] dd_Reader_valueOfRun_0.2.2.2.2.2.2.2.2.2.2.2.2.2.2.2.2.2.2.2.1 rfl (Nat.le_of_ble_eq_true rfl) rfl ?_
    refine g_iinc (pc := 30) 2 (b2 + (1 : Int32)) [(2, .int (b2 + (1 : Int32))), (1, .int (((b1 * (10 : Int32)) + x7) - (48 : Int32))), (0, .ref b0)] dd_Reader_valueOfRun_0.2.2.2.2.2.2.2.2.2.2.2.2.2.2.2.2.2.2.2.2.1 rfl rfl (Nat.le_of_ble_eq_true rfl) rfl ?_
    refine g_goto (pc := 33) 7 dd_Reader_valueOfRun_0.2.2.2.2.2.2.2.2.2.2.2.2.2.2.2.2.2.2.2.2.2.1 (by decide) ?_
    refine g_lv [2, 1, 0] rfl ?_
    exact hrec7 _ _ _ _ _ _  hf
def f_Reader_valueOfRun_7  : Nat → Nat → Int32 → Int32 → mH → Option (Int32 × mH)
  | 0 => fun _ _ _ _ => none
  | n + 1 => f_Reader_valueOfRun_7b  (f_Reader_valueOfRun_7  n)
theorem t_Reader_valueOfRun_7 {sc : Nat × (Nat → Int32)}  : ∀ (n : Nat) (b0 : Nat) (b1 : Int32) (b2 : Int32) (h : mH) (r : Int32) (h' : mH) (hf : f_Reader_valueOfRun_7  n b0 b1 b2 h = some (r, h')), G sc y_Reader_valueOfRun prog_4_method_20_code 3 (some .int) 0 0 7 [(0, .ref b0), (1, .int b1), (2, .int b2)] [] h (some (.int r)) h'
  | 0, _, _, _, _, _, _, hf => by cases hf
  | n + 1, _, _, _, _, _, _, hf => t_Reader_valueOfRun_7b  (f_Reader_valueOfRun_7  n) (t_Reader_valueOfRun_7  n) _ _ _ _ _ _ hf
def f_Reader_valueOfRun_0  (a0 : Nat) (h : mH) : Option (Int32 × mH) :=
  bd1 (gI h a0 3 7) fun x1 =>
  f_Reader_valueOfRun_7  FU a0 (0 : Int32) x1 h
set_option maxRecDepth 20000 in
theorem t_Reader_valueOfRun_0 {sc : Nat × (Nat → Int32)}  (a0 : Nat) (h : mH) (r : Int32) (h' : mH) (hf : f_Reader_valueOfRun_0  a0 h = some (r, h')) : G sc y_Reader_valueOfRun prog_4_method_20_code 3 (some .int) 0 0 0 [(0, .ref a0)] [] h (some (.int r)) h' := by
  unfold f_Reader_valueOfRun_0 at hf
  refine g_iconst (pc := 0) (0 : Int32) dd_Reader_valueOfRun_0.1 (by decide) ?_
  refine g_istore_n (pc := 1) [(1, .int (0 : Int32)), (0, .ref a0)] dd_Reader_valueOfRun_0.2.1 rfl (Nat.le_of_ble_eq_true rfl) rfl ?_
  refine g_aload_n (pc := 2) 1 dd_Reader_valueOfRun_0.2.2.1 rfl rfl ?_
  obtain ⟨x1, e2, hf⟩ := bd1_e hf
  refine g_get (pc := 3) (ci := 3) (kk := 7) dd_Reader_valueOfRun_0.2.2.2.1 rfl in_Reader (by decide) wd_43 (gI_spec e2) ?_
  refine g_istore_n (pc := 6) [(2, .int x1), (1, .int (0 : Int32)), (0, .ref a0)] dd_Reader_valueOfRun_0.2.2.2.2.1 rfl (Nat.le_of_ble_eq_true rfl) rfl ?_
  refine g_lv [2, 1, 0] rfl ?_
  exact t_Reader_valueOfRun_7  FU _ _ _ _ _ _  hf
def f_Reader_valueOfRun (a0 : Nat) (h : mH) : Option (Int32 × mH) := f_Reader_valueOfRun_0 a0 h
theorem c_Reader_valueOfRun {sc : Nat × (Nat → Int32)} {a0 : Nat} {h : mH} {r : Int32} {h' : mH} (hf : f_Reader_valueOfRun a0 h = some (r, h')) : MM sc y_Reader_valueOfRun prog_4_method_20_code 3 (some .int) 0 0 [.ref a0] h (some (.int r)) h' :=
  mm_of_G si_pn_Reader (Nat.le_of_ble_eq_true rfl) (t_Reader_valueOfRun_0 _ _ _ _ hf)
/-! Reader fail (II)Z -/
set_option maxRecDepth 100000 in
theorem dd_Reader_fail_0 : (decode prog_4_method_21_code 0 = .ok (.aload_n 0, 1)) ∧ (decode prog_4_method_21_code 1 = .ok (.iload_n 1, 1)) ∧ (decode prog_4_method_21_code 2 = .ok (.putfield 24, 3)) ∧ (decode prog_4_method_21_code 5 = .ok (.aload_n 0, 1)) ∧ (decode prog_4_method_21_code 6 = .ok (.iload_n 2, 1)) ∧ (decode prog_4_method_21_code 7 = .ok (.putfield 27, 3)) ∧ (decode prog_4_method_21_code 10 = .ok (.iconst 0, 1)) ∧ (decode prog_4_method_21_code 11 = .ok (.ireturn, 1)) := by
  have h : List.drop 0 prog_4_method_21_code.data.toList = 0x2a :: _ := rfl
  refine ⟨zq_k_n 42 h rfl (zq_o_42 _), ?_⟩
  replace h := zq_nx1 (q := 1) h rfl
  refine ⟨zq_k_n 27 h rfl (zq_o_27 _), ?_⟩
  replace h := zq_nx1 (q := 2) h rfl
  refine ⟨zq_k_u2 181 (fun z => .putfield z) 24 h rfl (zq_o_181 _) (by decide +kernel), ?_⟩
  replace h := zq_nx3 (q := 5) h rfl
  refine ⟨zq_k_n 42 h rfl (zq_o_42 _), ?_⟩
  replace h := zq_nx1 (q := 6) h rfl
  refine ⟨zq_k_n 28 h rfl (zq_o_28 _), ?_⟩
  replace h := zq_nx1 (q := 7) h rfl
  refine ⟨zq_k_u2 181 (fun z => .putfield z) 27 h rfl (zq_o_181 _) (by decide +kernel), ?_⟩
  replace h := zq_nx3 (q := 10) h rfl
  refine ⟨zq_k_n 3 h rfl (zq_o_3 _), ?_⟩
  replace h := zq_nx1 (q := 11) h rfl
  exact zq_k_n 172 h rfl (zq_o_172 _)
def f_Reader_fail_0  (a0 : Nat) (a1 : Int32) (a2 : Int32) (h : mH) : Option (Int32 × mH) :=
  bd1 (pV h a0 3 2 (.int a1)) fun h1 =>
  bd1 (pV h1 a0 3 3 (.int a2)) fun h3 =>
  some ((0 : Int32), h3)
set_option maxRecDepth 20000 in
theorem t_Reader_fail_0 {sc : Nat × (Nat → Int32)}  (a0 : Nat) (a1 : Int32) (a2 : Int32) (h : mH) (r : Int32) (h' : mH) (hf : f_Reader_fail_0  a0 a1 a2 h = some (r, h')) : G sc y_Reader_fail prog_4_method_21_code 3 (some .boolean) 0 0 0 [(0, .ref a0), (1, .int a1), (2, .int a2)] [] h (some (.int r)) h' := by
  unfold f_Reader_fail_0 at hf
  refine g_aload_n (pc := 0) 0 dd_Reader_fail_0.1 rfl rfl ?_
  refine g_iload_n (pc := 1) 1 dd_Reader_fail_0.2.1 rfl rfl ?_
  obtain ⟨h1, e2, hf⟩ := bd1_e hf
  refine g_put (pc := 2) (ci := 3) (kk := 2) ty_Reader tyok_Reader nm_Reader dd_Reader_fail_0.2.2.1 rfl in_Reader (by decide) wd_35 rfl (fun _ => rfl) (fun _ => rfl) (fun _ z => by cases z) e2 ?_
  refine g_aload_n (pc := 5) 0 dd_Reader_fail_0.2.2.2.1 rfl rfl ?_
  refine g_iload_n (pc := 6) 2 dd_Reader_fail_0.2.2.2.2.1 rfl rfl ?_
  obtain ⟨h3, e4, hf⟩ := bd1_e hf
  refine g_put (pc := 7) (ci := 3) (kk := 3) ty_Reader tyok_Reader nm_Reader dd_Reader_fail_0.2.2.2.2.2.1 rfl in_Reader (by decide) wd_37 rfl (fun _ => rfl) (fun _ => rfl) (fun _ z => by cases z) e4 ?_
  refine g_iconst (pc := 10) (0 : Int32) dd_Reader_fail_0.2.2.2.2.2.2.1 (by decide) ?_
  obtain ⟨rfl, rfl⟩ := ret2 hf
  exact g_zret (pc := 11) rfl rfl dd_Reader_fail_0.2.2.2.2.2.2.2
def f_Reader_fail (a0 : Nat) (a1 : Int32) (a2 : Int32) (h : mH) : Option (Int32 × mH) := f_Reader_fail_0 a0 a1 a2 h
theorem c_Reader_fail {sc : Nat × (Nat → Int32)} {a0 : Nat} {a1 : Int32} {a2 : Int32} {h : mH} {r : Int32} {h' : mH} (hf : f_Reader_fail a0 a1 a2 h = some (r, h')) : MM sc y_Reader_fail prog_4_method_21_code 3 (some .boolean) 0 0 [.ref a0, .int a1, .int a2] h (some (.int r)) h' :=
  mm_of_G si_pn_Reader (Nat.le_of_ble_eq_true rfl) (t_Reader_fail_0 _ _ _ _ _ _ hf)
/-! Reader takeToken ()Z -/
set_option maxRecDepth 100000 in
theorem dd_Reader_takeToken_0 : (decode prog_4_method_17_code 0 = .ok (.aload_n 0, 1)) ∧ (decode prog_4_method_17_code 1 = .ok (.bipush 32, 2)) ∧ (decode prog_4_method_17_code 3 = .ok (.bipush 32, 2)) ∧ (decode prog_4_method_17_code 5 = .ok (.invokevirtual 176, 3)) ∧ (decode prog_4_method_17_code 8 = .ok (.aload_n 0, 1)) ∧ (decode prog_4_method_17_code 9 = .ok (.aload_n 0, 1)) ∧ (decode prog_4_method_17_code 10 = .ok (.getfield 33, 3)) ∧ (decode prog_4_method_17_code 13 = .ok (.putfield 85, 3)) ∧ (decode prog_4_method_17_code 16 = .ok (.aload_n 0, 1)) ∧ (decode prog_4_method_17_code 17 = .ok (.aload_n 0, 1)) ∧ (decode prog_4_method_17_code 18 = .ok (.invokevirtual 180, 3)) ∧ (decode prog_4_method_17_code 21 = .ok (.putfield 40, 3)) ∧ (decode prog_4_method_17_code 24 = .ok (.aload_n 0, 1)) ∧ (decode prog_4_method_17_code 25 = .ok (.getfield 40, 3)) ∧ (decode prog_4_method_17_code 28 = .ok (.tableswitch 103 0 3 #[101, 32, 42, 89], 32)) ∧ (decode prog_4_method_17_code 60 = .ok (.aload_n 0, 1)) ∧ (decode prog_4_method_17_code 61 = .ok (.bipush 97, 2)) ∧ (decode prog_4_method_17_code 63 = .ok (.bipush 122, 2)) ∧ (decode prog_4_method_17_code 65 = .ok (.invokevirtual 176, 3)) ∧ (decode prog_4_method_17_code 68 = .ok (.iconst 1, 1)) ∧ (decode prog_4_method_17_code 69 = .ok (.ireturn, 1)) ∧ (decode prog_4_method_17_code 70 = .ok (.aload_n 0, 1)) ∧ (decode prog_4_method_17_code 71 = .ok (.bipush 48, 2)) ∧ (decode prog_4_method_17_code 73 = .ok (.bipush 57, 2)) := by
  have h : List.drop 0 prog_4_method_17_code.data.toList = 0x2a :: _ := rfl
  refine ⟨zq_k_n 42 h rfl (zq_o_42 _), ?_⟩
  replace h := zq_nx1 (q := 1) h rfl
  refine ⟨zq_k_s1 16 (fun z => .bipush z) 32 h rfl (zq_o_16 _) (by decide +kernel), ?_⟩
  replace h := zq_nx2 (q := 3) h rfl
  refine ⟨zq_k_s1 16 (fun z => .bipush z) 32 h rfl (zq_o_16 _) (by decide +kernel), ?_⟩
  replace h := zq_nx2 (q := 5) h rfl
  refine ⟨zq_k_u2 182 (fun z => .invokevirtual z) 176 h rfl (zq_o_182 _) (by decide +kernel), ?_⟩
  replace h := zq_nx3 (q := 8) h rfl
  refine ⟨zq_k_n 42 h rfl (zq_o_42 _), ?_⟩
  replace h := zq_nx1 (q := 9) h rfl
  refine ⟨zq_k_n 42 h rfl (zq_o_42 _), ?_⟩
  replace h := zq_nx1 (q := 10) h rfl
  refine ⟨zq_k_u2 180 (fun z => .getfield z) 33 h rfl (zq_o_180 _) (by decide +kernel), ?_⟩
  replace h := zq_nx3 (q := 13) h rfl
  refine ⟨zq_k_u2 181 (fun z => .putfield z) 85 h rfl (zq_o_181 _) (by decide +kernel), ?_⟩
  replace h := zq_nx3 (q := 16) h rfl
  refine ⟨zq_k_n 42 h rfl (zq_o_42 _), ?_⟩
  replace h := zq_nx1 (q := 17) h rfl
  refine ⟨zq_k_n 42 h rfl (zq_o_42 _), ?_⟩
  replace h := zq_nx1 (q := 18) h rfl
  refine ⟨zq_k_u2 182 (fun z => .invokevirtual z) 180 h rfl (zq_o_182 _) (by decide +kernel), ?_⟩
  replace h := zq_nx3 (q := 21) h rfl
  refine ⟨zq_k_u2 181 (fun z => .putfield z) 40 h rfl (zq_o_181 _) (by decide +kernel), ?_⟩
  replace h := zq_nx3 (q := 24) h rfl
  refine ⟨zq_k_n 42 h rfl (zq_o_42 _), ?_⟩
  replace h := zq_nx1 (q := 25) h rfl
  refine ⟨zq_k_u2 180 (fun z => .getfield z) 40 h rfl (zq_o_180 _) (by decide +kernel), ?_⟩
  replace h := zq_nx3 (q := 28) h rfl
  refine ⟨by decide +kernel, ?_⟩
  have h : List.drop 60 prog_4_method_17_code.data.toList = 0x2a :: _ := rfl
  refine ⟨zq_k_n 42 h rfl (zq_o_42 _), ?_⟩
  replace h := zq_nx1 (q := 61) h rfl
  refine ⟨zq_k_s1 16 (fun z => .bipush z) 97 h rfl (zq_o_16 _) (by decide +kernel), ?_⟩
  replace h := zq_nx2 (q := 63) h rfl
  refine ⟨zq_k_s1 16 (fun z => .bipush z) 122 h rfl (zq_o_16 _) (by decide +kernel), ?_⟩
  replace h := zq_nx2 (q := 65) h rfl
  refine ⟨zq_k_u2 182 (fun z => .invokevirtual z) 176 h rfl (zq_o_182 _) (by decide +kernel), ?_⟩
  replace h := zq_nx3 (q := 68) h rfl
  refine ⟨zq_k_n 4 h rfl (zq_o_4 _), ?_⟩
  replace h := zq_nx1 (q := 69) h rfl
  refine ⟨zq_k_n 172 h rfl (zq_o_172 _), ?_⟩
  replace h := zq_nx1 (q := 70) h rfl
  refine ⟨zq_k_n 42 h rfl (zq_o_42 _), ?_⟩
  replace h := zq_nx1 (q := 71) h rfl
  refine ⟨zq_k_s1 16 (fun z => .bipush z) 48 h rfl (zq_o_16 _) (by decide +kernel), ?_⟩
  replace h := zq_nx2 (q := 73) h rfl
  exact zq_k_s1 16 (fun z => .bipush z) 57 h rfl (zq_o_16 _) (by decide +kernel)
set_option maxRecDepth 100000 in
theorem dd_Reader_takeToken_75 : (decode prog_4_method_17_code 75 = .ok (.invokevirtual 176, 3)) ∧ (decode prog_4_method_17_code 78 = .ok (.aload_n 0, 1)) ∧ (decode prog_4_method_17_code 79 = .ok (.aload_n 0, 1)) ∧ (decode prog_4_method_17_code 80 = .ok (.invokevirtual 183, 3)) ∧ (decode prog_4_method_17_code 83 = .ok (.putfield 123, 3)) ∧ (decode prog_4_method_17_code 86 = .ok (.aload_n 0, 1)) ∧ (decode prog_4_method_17_code 87 = .ok (.getfield 33, 3)) ∧ (decode prog_4_method_17_code 90 = .ok (.aload_n 0, 1)) ∧ (decode prog_4_method_17_code 91 = .ok (.getfield 85, 3)) ∧ (decode prog_4_method_17_code 94 = .ok (.isub, 1)) ∧ (decode prog_4_method_17_code 95 = .ok (.iconst 2, 1)) ∧ (decode prog_4_method_17_code 96 = .ok (.if_icmp .le 15, 3)) ∧ (decode prog_4_method_17_code 99 = .ok (.aload_n 0, 1)) ∧ (decode prog_4_method_17_code 100 = .ok (.iconst 1, 1)) ∧ (decode prog_4_method_17_code 101 = .ok (.aload_n 0, 1)) ∧ (decode prog_4_method_17_code 102 = .ok (.getfield 85, 3)) ∧ (decode prog_4_method_17_code 105 = .ok (.invokevirtual 50, 3)) ∧ (decode prog_4_method_17_code 108 = .ok (.ifCond .eq 7, 3)) ∧ (decode prog_4_method_17_code 111 = .ok (.iconst 1, 1)) ∧ (decode prog_4_method_17_code 112 = .ok (.goto 4, 3)) ∧ (decode prog_4_method_17_code 115 = .ok (.iconst 0, 1)) ∧ (decode prog_4_method_17_code 116 = .ok (.ireturn, 1)) ∧ (decode prog_4_method_17_code 117 = .ok (.aload_n 0, 1)) ∧ (decode prog_4_method_17_code 118 = .ok (.dup, 1)) := by
  have h : List.drop 75 prog_4_method_17_code.data.toList = 0xb6 :: _ := rfl
  refine ⟨zq_k_u2 182 (fun z => .invokevirtual z) 176 h rfl (zq_o_182 _) (by decide +kernel), ?_⟩
  replace h := zq_nx3 (q := 78) h rfl
  refine ⟨zq_k_n 42 h rfl (zq_o_42 _), ?_⟩
  replace h := zq_nx1 (q := 79) h rfl
  refine ⟨zq_k_n 42 h rfl (zq_o_42 _), ?_⟩
  replace h := zq_nx1 (q := 80) h rfl
  refine ⟨zq_k_u2 182 (fun z => .invokevirtual z) 183 h rfl (zq_o_182 _) (by decide +kernel), ?_⟩
  replace h := zq_nx3 (q := 83) h rfl
  refine ⟨zq_k_u2 181 (fun z => .putfield z) 123 h rfl (zq_o_181 _) (by decide +kernel), ?_⟩
  replace h := zq_nx3 (q := 86) h rfl
  refine ⟨zq_k_n 42 h rfl (zq_o_42 _), ?_⟩
  replace h := zq_nx1 (q := 87) h rfl
  refine ⟨zq_k_u2 180 (fun z => .getfield z) 33 h rfl (zq_o_180 _) (by decide +kernel), ?_⟩
  replace h := zq_nx3 (q := 90) h rfl
  refine ⟨zq_k_n 42 h rfl (zq_o_42 _), ?_⟩
  replace h := zq_nx1 (q := 91) h rfl
  refine ⟨zq_k_u2 180 (fun z => .getfield z) 85 h rfl (zq_o_180 _) (by decide +kernel), ?_⟩
  replace h := zq_nx3 (q := 94) h rfl
  refine ⟨zq_k_n 100 h rfl (zq_o_100 _), ?_⟩
  replace h := zq_nx1 (q := 95) h rfl
  refine ⟨zq_k_n 5 h rfl (zq_o_5 _), ?_⟩
  replace h := zq_nx1 (q := 96) h rfl
  refine ⟨zq_k_s2 164 (fun z => .if_icmp .le z) 15 h rfl (zq_o_164 _) (by decide +kernel), ?_⟩
  replace h := zq_nx3 (q := 99) h rfl
  refine ⟨zq_k_n 42 h rfl (zq_o_42 _), ?_⟩
  replace h := zq_nx1 (q := 100) h rfl
  refine ⟨zq_k_n 4 h rfl (zq_o_4 _), ?_⟩
  replace h := zq_nx1 (q := 101) h rfl
  refine ⟨zq_k_n 42 h rfl (zq_o_42 _), ?_⟩
  replace h := zq_nx1 (q := 102) h rfl
  refine ⟨zq_k_u2 180 (fun z => .getfield z) 85 h rfl (zq_o_180 _) (by decide +kernel), ?_⟩
  replace h := zq_nx3 (q := 105) h rfl
  refine ⟨zq_k_u2 182 (fun z => .invokevirtual z) 50 h rfl (zq_o_182 _) (by decide +kernel), ?_⟩
  replace h := zq_nx3 (q := 108) h rfl
  refine ⟨zq_k_s2 153 (fun z => .ifCond .eq z) 7 h rfl (zq_o_153 _) (by decide +kernel), ?_⟩
  replace h := zq_nx3 (q := 111) h rfl
  refine ⟨zq_k_n 4 h rfl (zq_o_4 _), ?_⟩
  replace h := zq_nx1 (q := 112) h rfl
  refine ⟨zq_k_s2 167 (fun z => .goto z) 4 h rfl (zq_o_167 _) (by decide +kernel), ?_⟩
  replace h := zq_nx3 (q := 115) h rfl
  refine ⟨zq_k_n 3 h rfl (zq_o_3 _), ?_⟩
  replace h := zq_nx1 (q := 116) h rfl
  refine ⟨zq_k_n 172 h rfl (zq_o_172 _), ?_⟩
  replace h := zq_nx1 (q := 117) h rfl
  refine ⟨zq_k_n 42 h rfl (zq_o_42 _), ?_⟩
  replace h := zq_nx1 (q := 118) h rfl
  exact zq_k_n 89 h rfl (zq_o_89 _)
set_option maxRecDepth 100000 in
theorem dd_Reader_takeToken_119 : (decode prog_4_method_17_code 119 = .ok (.getfield 33, 3)) ∧ (decode prog_4_method_17_code 122 = .ok (.iconst 1, 1)) ∧ (decode prog_4_method_17_code 123 = .ok (.iadd, 1)) ∧ (decode prog_4_method_17_code 124 = .ok (.putfield 33, 3)) ∧ (decode prog_4_method_17_code 127 = .ok (.iconst 1, 1)) ∧ (decode prog_4_method_17_code 128 = .ok (.ireturn, 1)) ∧ (decode prog_4_method_17_code 129 = .ok (.iconst 1, 1)) ∧ (decode prog_4_method_17_code 130 = .ok (.ireturn, 1)) ∧ (decode prog_4_method_17_code 131 = .ok (.aload_n 0, 1)) ∧ (decode prog_4_method_17_code 132 = .ok (.iconst 1, 1)) ∧ (decode prog_4_method_17_code 133 = .ok (.aload_n 0, 1)) ∧ (decode prog_4_method_17_code 134 = .ok (.getfield 85, 3)) ∧ (decode prog_4_method_17_code 137 = .ok (.invokevirtual 50, 3)) ∧ (decode prog_4_method_17_code 140 = .ok (.ireturn, 1)) := by
  have h : List.drop 119 prog_4_method_17_code.data.toList = 0xb4 :: _ := rfl
  refine ⟨zq_k_u2 180 (fun z => .getfield z) 33 h rfl (zq_o_180 _) (by decide +kernel), ?_⟩
  replace h := zq_nx3 (q := 122) h rfl
  refine ⟨zq_k_n 4 h rfl (zq_o_4 _), ?_⟩
  replace h := zq_nx1 (q := 123) h rfl
  refine ⟨zq_k_n 96 h rfl (zq_o_96 _), ?_⟩
  replace h := zq_nx1 (q := 124) h rfl
  refine ⟨zq_k_u2 181 (fun z => .putfield z) 33 h rfl (zq_o_181 _) (by decide +kernel), ?_⟩
  replace h := zq_nx3 (q := 127) h rfl
  refine ⟨zq_k_n 4 h rfl (zq_o_4 _), ?_⟩
  replace h := zq_nx1 (q := 128) h rfl
  refine ⟨zq_k_n 172 h rfl (zq_o_172 _), ?_⟩
  replace h := zq_nx1 (q := 129) h rfl
  refine ⟨zq_k_n 4 h rfl (zq_o_4 _), ?_⟩
  replace h := zq_nx1 (q := 130) h rfl
  refine ⟨zq_k_n 172 h rfl (zq_o_172 _), ?_⟩
  replace h := zq_nx1 (q := 131) h rfl
  refine ⟨zq_k_n 42 h rfl (zq_o_42 _), ?_⟩
  replace h := zq_nx1 (q := 132) h rfl
  refine ⟨zq_k_n 4 h rfl (zq_o_4 _), ?_⟩
  replace h := zq_nx1 (q := 133) h rfl
  refine ⟨zq_k_n 42 h rfl (zq_o_42 _), ?_⟩
  replace h := zq_nx1 (q := 134) h rfl
  refine ⟨zq_k_u2 180 (fun z => .getfield z) 85 h rfl (zq_o_180 _) (by decide +kernel), ?_⟩
  replace h := zq_nx3 (q := 137) h rfl
  refine ⟨zq_k_u2 182 (fun z => .invokevirtual z) 50 h rfl (zq_o_182 _) (by decide +kernel), ?_⟩
  replace h := zq_nx3 (q := 140) h rfl
  exact zq_k_n 172 h rfl (zq_o_172 _)
def f_Reader_takeToken_111   (h : mH) : Option (Int32 × mH) :=
  some ((1 : Int32), h)
set_option maxRecDepth 20000 in
theorem t_Reader_takeToken_111 {sc : Nat × (Nat → Int32)}   (h : mH) (r : Int32) (h' : mH) (hf : f_Reader_takeToken_111   h = some (r, h')) : G sc y_Reader_takeToken prog_4_method_17_code 1 (some .boolean) 1 22 111 [] [] h (some (.int r)) h' := by
  unfold f_Reader_takeToken_111 at hf
  refine g_iconst (pc := 111) (1 : Int32) dd_Reader_takeToken_75.2.2.2.2.2.2.2.2.2.2.2.2.2.2.2.2.2.2.1 (by decide) ?_
  refine g_goto (pc := 112) 116 dd_Reader_takeToken_75.2.2.2.2.2.2.2.2.2.2.2.2.2.2.2.2.2.2.2.1 (by decide) ?_
  obtain ⟨rfl, rfl⟩ := ret2 hf
  exact g_zret (pc := 116) rfl rfl dd_Reader_takeToken_75.2.2.2.2.2.2.2.2.2.2.2.2.2.2.2.2.2.2.2.2.2.1
def f_Reader_takeToken_0  (a0 : Nat) (h : mH) : Option (Int32 × mH) :=
  bd1 (kC h a0 3) fun _ =>
  bd1 (f_Reader_passRun a0 (32 : Int32) (32 : Int32) h) fun h3 =>
  bd1 (gI h3 a0 3 5) fun x5 =>
  bd1 (pV h3 a0 3 7 (.int x5)) fun h7 =>
  bd1 (kC h7 a0 3) fun _ =>
  bd2 (f_Reader_kindHere a0 h7) fun x13 h11 =>
  bd1 (pV h11 a0 3 6 (.int x13)) fun h14 =>
  bd1 (gI h14 a0 3 6) fun x16 =>
  if x16 = (0 : Int32) then
    some ((1 : Int32), h14)
  else
  if x16 = (1 : Int32) then
    bd1 (kC h14 a0 3) fun _ =>
    bd1 (f_Reader_passRun a0 (97 : Int32) (122 : Int32) h14) fun h22 =>
    some ((1 : Int32), h22)
  else
  if x16 = (2 : Int32) then
    bd1 (kC h14 a0 3) fun _ =>
    bd1 (f_Reader_passRun a0 (48 : Int32) (57 : Int32) h14) fun h27 =>
    bd1 (kC h27 a0 3) fun _ =>
    bd2 (f_Reader_valueOfRun a0 h27) fun x33 h31 =>
    bd1 (pV h31 a0 3 8 (.int x33)) fun h34 =>
    bd1 (gI h34 a0 3 5) fun x36 =>
    bd1 (gI h34 a0 3 7) fun x38 =>
    if (x36 - x38) ≤ (2 : Int32) then
      f_Reader_takeToken_111  h34
    else
      bd1 (gI h34 a0 3 7) fun x40 =>
      bd1 (kC h34 a0 3) fun _ =>
      bd2 (f_Reader_fail a0 (1 : Int32) x40 h34) fun x46 h44 =>
      if x46 = 0 then
        some ((0 : Int32), h44)
      else
        f_Reader_takeToken_111  h44
  else
  if x16 = (3 : Int32) then
    bd1 (gI h14 a0 3 5) fun x50 =>
    bd1 (pV h14 a0 3 5 (.int (x50 + (1 : Int32)))) fun h52 =>
    some ((1 : Int32), h52)
  else
  bd1 (gI h14 a0 3 7) fun x54 =>
  bd1 (kC h14 a0 3) fun _ =>
  bd2 (f_Reader_fail a0 (1 : Int32) x54 h14) fun x60 h58 =>
  if x60 = 0 ∨ x60 = 1 then some (x60, h58) else none
set_option maxRecDepth 20000 in
theorem t_Reader_takeToken_0 {sc : Nat × (Nat → Int32)}  (a0 : Nat) (h : mH) (r : Int32) (h' : mH) (hf : f_Reader_takeToken_0  a0 h = some (r, h')) : G sc y_Reader_takeToken prog_4_method_17_code 1 (some .boolean) 1 22 0 [(0, .ref a0)] [] h (some (.int r)) h' := by
  unfold f_Reader_takeToken_0 at hf
  refine g_aload_n (pc := 0) 0 dd_Reader_takeToken_0.1 rfl rfl ?_
  refine g_bipush (pc := 1) (32 : Int32) dd_Reader_takeToken_0.2.1 (by decide) ?_
  refine g_bipush (pc := 3) (32 : Int32) dd_Reader_takeToken_0.2.2.1 (by decide) ?_
  obtain ⟨u2, e1, hf⟩ := bd1_e hf
  obtain ⟨h3, e4, hf⟩ := bd1_e hf
  refine g_callV (pc := 5) (ci := 3) [.int (32 : Int32), .int (32 : Int32)] (site_of si_Reader_passRun (by decide) (by decide)) wd_361 wd_363 wp_1 dd_Reader_takeToken_0.2.2.2.1 rfl e1 (Nat.le_of_ble_eq_true rfl) (fun z => absurd z si_na_Reader_passRun) (fun z => absurd z si_na_Reader_passRun) (fun z => absurd z si_na_Reader_passRun) (c_Reader_passRun e4) rfl ?_
  refine g_st [] rfl ?_
  refine g_aload_n (pc := 8) 0 dd_Reader_takeToken_0.2.2.2.2.1 rfl rfl ?_
  refine g_aload_n (pc := 9) 0 dd_Reader_takeToken_0.2.2.2.2.2.1 rfl rfl ?_
  obtain ⟨x5, e6, hf⟩ := bd1_e hf
  refine g_get (pc := 10) (ci := 3) (kk := 5) dd_Reader_takeToken_0.2.2.2.2.2.2.1 rfl in_Reader (by decide) wd_41 (gI_spec e6) ?_
  obtain ⟨h7, e8, hf⟩ := bd1_e hf
  refine g_put (pc := 13) (ci := 3) (kk := 7) ty_Reader tyok_Reader nm_Reader dd_Reader_takeToken_0.2.2.2.2.2.2.2.1 rfl in_Reader (by decide) wd_43 rfl (fun _ => rfl) (fun _ => rfl) (fun _ z => by cases z) e8 ?_
  refine g_aload_n (pc := 16) 0 dd_Reader_takeToken_0.2.2.2.2.2.2.2.2.1 rfl rfl ?_
  refine g_aload_n (pc := 17) 0 dd_Reader_takeToken_0.2.2.2.2.2.2.2.2.2.1 rfl rfl ?_
  obtain ⟨u10, e9, hf⟩ := bd1_e hf
  obtain ⟨x13, h11, e12, hf⟩ := bd2_e hf
  refine g_callV (pc := 18) (ci := 3) [] (site_of si_Reader_kindHere (by decide) (by decide)) wd_365 wd_367 wp_2 dd_Reader_takeToken_0.2.2.2.2.2.2.2.2.2.2.1 rfl e9 (Nat.le_of_ble_eq_true rfl) (fun z => absurd z si_na_Reader_kindHere) (fun z => absurd z si_na_Reader_kindHere) (fun z => absurd z si_na_Reader_kindHere) (c_Reader_kindHere e12) rfl ?_
  refine g_st [.int x13, .ref a0] rfl ?_
  obtain ⟨h14, e15, hf⟩ := bd1_e hf
  refine g_put (pc := 21) (ci := 3) (kk := 6) ty_Reader tyok_Reader nm_Reader dd_Reader_takeToken_0.2.2.2.2.2.2.2.2.2.2.2.1 rfl in_Reader (by decide) wd_42 rfl (fun _ => rfl) (fun _ => rfl) (fun _ z => by cases z) e15 ?_
  refine g_aload_n (pc := 24) 0 dd_Reader_takeToken_0.2.2.2.2.2.2.2.2.2.2.2.2.1 rfl rfl ?_
  obtain ⟨x16, e17, hf⟩ := bd1_e hf
  refine g_get (pc := 25) (ci := 3) (kk := 6) dd_Reader_takeToken_0.2.2.2.2.2.2.2.2.2.2.2.2.2.1 rfl in_Reader (by decide) wd_42 (gI_spec e17) ?_
  by_cases c18 : x16 = (0 : Int32)
  · replace hf := (if_pos c18).symm.trans hf
    refine g_tabIn (pc := 28) 129 (0 : Int32) dd_Reader_takeToken_0.2.2.2.2.2.2.2.2.2.2.2.2.2.2.1 c18 (by decide) (by decide) rfl (by decide) ?_
    refine g_iconst (pc := 129) (1 : Int32) dd_Reader_takeToken_119.2.2.2.2.2.2.1 (by decide) ?_
    obtain ⟨rfl, rfl⟩ := ret2 hf
    exact g_zret (pc := 130) rfl rfl dd_Reader_takeToken_119.2.2.2.2.2.2.2.1
  replace hf := (if_neg c18).symm.trans hf
  by_cases c19 : x16 = (1 : Int32)
  · replace hf := (if_pos c19).symm.trans hf
    refine g_tabIn (pc := 28) 60 (1 : Int32) dd_Reader_takeToken_0.2.2.2.2.2.2.2.2.2.2.2.2.2.2.1 c19 (by decide) (by decide) rfl (by decide) ?_
    refine g_aload_n (pc := 60) 0 dd_Reader_takeToken_0.2.2.2.2.2.2.2.2.2.2.2.2.2.2.2.1 rfl rfl ?_
    refine g_bipush (pc := 61) (97 : Int32) dd_Reader_takeToken_0.2.2.2.2.2.2.2.2.2.2.2.2.2.2.2.2.1 (by decide) ?_
    refine g_bipush (pc := 63) (122 : Int32) dd_Reader_takeToken_0.2.2.2.2.2.2.2.2.2.2.2.2.2.2.2.2.2.1 (by decide) ?_
    obtain ⟨u21, e20, hf⟩ := bd1_e hf
    obtain ⟨h22, e23, hf⟩ := bd1_e hf
    refine g_callV (pc := 65) (ci := 3) [.int (97 : Int32), .int (122 : Int32)] (site_of si_Reader_passRun (by decide) (by decide)) wd_361 wd_363 wp_1 dd_Reader_takeToken_0.2.2.2.2.2.2.2.2.2.2.2.2.2.2.2.2.2.2.1 rfl e20 (Nat.le_of_ble_eq_true rfl) (fun z => absurd z si_na_Reader_passRun) (fun z => absurd z si_na_Reader_passRun) (fun z => absurd z si_na_Reader_passRun) (c_Reader_passRun e23) rfl ?_
    refine g_st [] rfl ?_
    refine g_iconst (pc := 68) (1 : Int32) dd_Reader_takeToken_0.2.2.2.2.2.2.2.2.2.2.2.2.2.2.2.2.2.2.2.1 (by decide) ?_
    obtain ⟨rfl, rfl⟩ := ret2 hf
    exact g_zret (pc := 69) rfl rfl dd_Reader_takeToken_0.2.2.2.2.2.2.2.2.2.2.2.2.2.2.2.2.2.2.2.2.1
  replace hf := (if_neg c19).symm.trans hf
  by_cases c24 : x16 = (2 : Int32)
  · replace hf := (if_pos c24).symm.trans hf
    refine g_tabIn (pc := 28) 70 (2 : Int32) dd_Reader_takeToken_0.2.2.2.2.2.2.2.2.2.2.2.2.2.2.1 c24 (by decide) (by decide) rfl (by decide) ?_
    refine g_aload_n (pc := 70) 0 dd_Reader_takeToken_0.2.2.2.2.2.2.2.2.2.2.2.2.2.2.2.2.2.2.2.2.2.1 rfl rfl ?_
    refine g_bipush (pc := 71) (48 : Int32) dd_Reader_takeToken_0.2.2.2.2.2.2.2.2.2.2.2.2.2.2.2.2.2.2.2.2.2.2.1 (by decide) ?_
    refine g_bipush (pc := 73) (57 : Int32) dd_Reader_takeToken_0.2.2.2.2.2.2.2.2.2.2.2.2.2.2.2.2.2.2.2.2.2.2.2 (by decide) ?_
    obtain ⟨u26, e25, hf⟩ := bd1_e hf
    obtain ⟨h27, e28, hf⟩ := bd1_e hf
    refine g_callV (pc := 75) (ci := 3) [.int (48 : Int32), .int (57 : Int32)] (site_of si_Reader_passRun (by decide) (by decide)) wd_361 wd_363 wp_1 dd_Reader_takeToken_75.1 rfl e25 (Nat.le_of_ble_eq_true rfl) (fun z => absurd z si_na_Reader_passRun) (fun z => absurd z si_na_Reader_passRun) (fun z => absurd z si_na_Reader_passRun) (c_Reader_passRun e28) rfl ?_
    refine g_st [] rfl ?_
    refine g_aload_n (pc := 78) 0 dd_Reader_takeToken_75.2.1 rfl rfl ?_
    refine g_aload_n (pc := 79) 0 dd_Reader_takeToken_75.2.2.1 rfl rfl ?_
    obtain ⟨u30, e29, hf⟩ := bd1_e hf
    obtain ⟨x33, h31, e32, hf⟩ := bd2_e hf
    refine g_callV (pc := 80) (ci := 3) [] (site_of si_Reader_valueOfRun (by decide) (by decide)) wd_369 wd_371 wp_3 dd_Reader_takeToken_75.2.2.2.1 rfl e29 (Nat.le_of_ble_eq_true rfl) (fun z => absurd z si_na_Reader_valueOfRun) (fun z => absurd z si_na_Reader_valueOfRun) (fun z => absurd z si_na_Reader_valueOfRun) (c_Reader_valueOfRun e32) rfl ?_
    refine g_st [.int x33, .ref a0] rfl ?_
    obtain ⟨h34, e35, hf⟩ := bd1_e hf
    refine g_put (pc := 83) (ci := 3) (kk := 8) ty_Reader tyok_Reader nm_Reader dd_Reader_takeToken_75.2.2.2.2.1 rfl in_Reader (by decide) wd_44 rfl (fun _ => rfl) (fun _ => rfl) (fun _ z => by cases z) e35 ?_
    refine g_aload_n (pc := 86) 0 dd_Reader_takeToken_75.2.2.2.2.2.1 rfl rfl ?_
    obtain ⟨x36, e37, hf⟩ := bd1_e hf
    refine g_get (pc := 87) (ci := 3) (kk := 5) dd_Reader_takeToken_75.2.2.2.2.2.2.1 rfl in_Reader (by decide) wd_41 (gI_spec e37) ?_
    refine g_aload_n (pc := 90) 0 dd_Reader_takeToken_75.2.2.2.2.2.2.2.1 rfl rfl ?_
    obtain ⟨x38, e39, hf⟩ := bd1_e hf
    refine g_get (pc := 91) (ci := 3) (kk := 7) dd_Reader_takeToken_75.2.2.2.2.2.2.2.2.1 rfl in_Reader (by decide) wd_43 (gI_spec e39) ?_
    refine g_isub (pc := 94) dd_Reader_takeToken_75.2.2.2.2.2.2.2.2.2.1 ?_
    refine g_iconst (pc := 95) (2 : Int32) dd_Reader_takeToken_75.2.2.2.2.2.2.2.2.2.2.1 (by decide) ?_
    refine g_icmple (pc := 96) 111 dd_Reader_takeToken_75.2.2.2.2.2.2.2.2.2.2.2.1 (by decide) (fun c48 => ?_) (fun c48 => ?_)
    · replace hf := (if_pos c48).symm.trans hf
      refine g_lv [] rfl ?_
      exact t_Reader_takeToken_111  _ _ _  hf
    · replace hf := (if_neg c48).symm.trans hf
      refine g_aload_n (pc := 99) 0 dd_Reader_takeToken_75.2.2.2.2.2.2.2.2.2.2.2.2.1 rfl rfl ?_
      refine g_iconst (pc := 100) (1 : Int32) dd_Reader_takeToken_75.2.2.2.2.2.2.2.2.2.2.2.2.2.1 (by decide) ?_
      refine g_aload_n (pc := 101) 0 dd_Reader_takeToken_75.2.2.2.2.2.2.2.2.2.2.2.2.2.2.1 rfl rfl ?_
      obtain ⟨x40, e41, hf⟩ := bd1_e hf
      refine g_get (pc := 102) (ci := 3) (kk := 7) dd_Reader_takeToken_75.2.2.2.2.2.2.2.2.2.2.2.2.2.2.2.1 rfl in_Reader (by decide) wd_43 (gI_spec e41) ?_
      obtain ⟨u43, e42, hf⟩ := bd1_e hf
      obtain ⟨x46, h44, e45, hf⟩ := bd2_e hf
      refine g_callV (pc := 105) (ci := 3) [.int (1 : Int32), .int x40] (site_of si_Reader_fail (by decide) (by decide)) wd_373 wd_375 wp_4 dd_Reader_takeToken_75.2.2.2.2.2.2.2.2.2.2.2.2.2.2.2.2.1 rfl e42 (Nat.le_of_ble_eq_true rfl) (fun z => absurd z si_na_Reader_fail) (fun z => absurd z si_na_Reader_fail) (fun z => absurd z si_na_Reader_fail) (c_Reader_fail e45) rfl ?_
      refine g_st [.int x46] rfl ?_
      refine g_ifeq (pc := 108) 115 dd_Reader_takeToken_75.2.2.2.2.2.2.2.2.2.2.2.2.2.2.2.2.2.1 (by decide) (fun c47 => ?_) (fun c47 => ?_)
      · replace hf := (if_pos c47).symm.trans hf
        refine g_iconst (pc := 115) (0 : Int32) dd_Reader_takeToken_75.2.2.2.2.2.2.2.2.2.2.2.2.2.2.2.2.2.2.2.2.1 (by decide) ?_
        obtain ⟨rfl, rfl⟩ := ret2 hf
        exact g_zret (pc := 116) rfl rfl dd_Reader_takeToken_75.2.2.2.2.2.2.2.2.2.2.2.2.2.2.2.2.2.2.2.2.2.1
      · replace hf := (if_neg c47).symm.trans hf
        refine g_lv [] rfl ?_
        exact t_Reader_takeToken_111  _ _ _  hf
  replace hf := (if_neg c24).symm.trans hf
  by_cases c49 : x16 = (3 : Int32)
  · replace hf := (if_pos c49).symm.trans hf
    refine g_tabIn (pc := 28) 117 (3 : Int32) dd_Reader_takeToken_0.2.2.2.2.2.2.2.2.2.2.2.2.2.2.1 c49 (by decide) (by decide) rfl (by decide) ?_
    refine g_aload_n (pc := 117) 0 dd_Reader_takeToken_75.2.2.2.2.2.2.2.2.2.2.2.2.2.2.2.2.2.2.2.2.2.2.1 rfl rfl ?_
    refine g_dup (pc := 118) dd_Reader_takeToken_75.2.2.2.2.2.2.2.2.2.2.2.2.2.2.2.2.2.2.2.2.2.2.2 rfl ?_
    obtain ⟨x50, e51, hf⟩ := bd1_e hf
    refine g_get (pc := 119) (ci := 3) (kk := 5) dd_Reader_takeToken_119.1 rfl in_Reader (by decide) wd_41 (gI_spec e51) ?_
    refine g_iconst (pc := 122) (1 : Int32) dd_Reader_takeToken_119.2.1 (by decide) ?_
    refine g_iadd (pc := 123) dd_Reader_takeToken_119.2.2.1 ?_
    obtain ⟨h52, e53, hf⟩ := bd1_e hf
    refine g_put (pc := 124) (ci := 3) (kk := 5) ty_Reader tyok_Reader nm_Reader dd_Reader_takeToken_119.2.2.2.1 rfl in_Reader (by decide) wd_41 rfl (fun _ => rfl) (fun _ => rfl) (fun _ z => by cases z) e53 ?_
    refine g_iconst (pc := 127) (1 : Int32) dd_Reader_takeToken_119.2.2.2.2.1 (by decide) ?_
    obtain ⟨rfl, rfl⟩ := ret2 hf
    exact g_zret (pc := 128) rfl rfl dd_Reader_takeToken_119.2.2.2.2.2.1
  replace hf := (if_neg c49).symm.trans hf
  refine g_tabOut (pc := 28) 131 4 dd_Reader_takeToken_0.2.2.2.2.2.2.2.2.2.2.2.2.2.2.1 (by decide) (fun i hi => ?_) (by decide) ?_
  · rcases (show i = 0 ∨ i = 1 ∨ i = 2 ∨ i = 3 by omega) with rfl | rfl | rfl | rfl
    · exact c18
    · exact c19
    · exact c24
    · exact c49
  refine g_aload_n (pc := 131) 0 dd_Reader_takeToken_119.2.2.2.2.2.2.2.2.1 rfl rfl ?_
  refine g_iconst (pc := 132) (1 : Int32) dd_Reader_takeToken_119.2.2.2.2.2.2.2.2.2.1 (by decide) ?_
  refine g_aload_n (pc := 133) 0 dd_Reader_takeToken_119.2.2.2.2.2.2.2.2.2.2.1 rfl rfl ?_
  obtain ⟨x54, e55, hf⟩ := bd1_e hf
  refine g_get (pc := 134) (ci := 3) (kk := 7) dd_Reader_takeToken_119.2.2.2.2.2.2.2.2.2.2.2.1 rfl in_Reader (by decide) wd_43 (gI_spec e55) ?_
  obtain ⟨u57, e56, hf⟩ := bd1_e hf
  obtain ⟨x60, h58, e59, hf⟩ := bd2_e hf
  refine g_callV (pc := 137) (ci := 3) [.int (1 : Int32), .int x54] (site_of si_Reader_fail (by decide) (by decide)) wd_373 wd_375 wp_4 dd_Reader_takeToken_119.2.2.2.2.2.2.2.2.2.2.2.2.1 rfl e56 (Nat.le_of_ble_eq_true rfl) (fun z => absurd z si_na_Reader_fail) (fun z => absurd z si_na_Reader_fail) (fun z => absurd z si_na_Reader_fail) (c_Reader_fail e59) rfl ?_
  refine g_st [.int x60] rfl ?_
  by_cases c61 : x60 = 0 ∨ x60 = 1
  · replace hf := (if_pos c61).symm.trans hf
    obtain ⟨rfl, rfl⟩ := ret2 hf
    exact g_zret (pc := 140) rfl (nar_z c61) dd_Reader_takeToken_119.2.2.2.2.2.2.2.2.2.2.2.2.2
  · exact absurd ((if_neg c61).symm.trans hf) (by simp)
def f_Reader_takeToken (a0 : Nat) (h : mH) : Option (Int32 × mH) := f_Reader_takeToken_0 a0 h
theorem c_Reader_takeToken {sc : Nat × (Nat → Int32)} {a0 : Nat} {h : mH} {r : Int32} {h' : mH} (hf : f_Reader_takeToken a0 h = some (r, h')) : MM sc y_Reader_takeToken prog_4_method_17_code 1 (some .boolean) 1 22 [.ref a0] h (some (.int r)) h' :=
  mm_of_G si_pn_Reader (Nat.le_of_ble_eq_true rfl) (t_Reader_takeToken_0 _ _ _ _ hf)
/-! Reader isWord (Ljava.lang.String;)Z -/
set_option maxRecDepth 100000 in
theorem dd_Reader_isWord_0 : (decode prog_4_method_16_code 0 = .ok (.aload_n 0, 1)) ∧ (decode prog_4_method_16_code 1 = .ok (.getfield 40, 3)) ∧ (decode prog_4_method_16_code 4 = .ok (.iconst 1, 1)) ∧ (decode prog_4_method_16_code 5 = .ok (.if_icmp .ne 19, 3)) ∧ (decode prog_4_method_16_code 8 = .ok (.aload_n 0, 1)) ∧ (decode prog_4_method_16_code 9 = .ok (.getfield 33, 3)) ∧ (decode prog_4_method_16_code 12 = .ok (.aload_n 0, 1)) ∧ (decode prog_4_method_16_code 13 = .ok (.getfield 85, 3)) ∧ (decode prog_4_method_16_code 16 = .ok (.isub, 1)) ∧ (decode prog_4_method_16_code 17 = .ok (.aload_n 1, 1)) ∧ (decode prog_4_method_16_code 18 = .ok (.invokevirtual 167, 3)) ∧ (decode prog_4_method_16_code 21 = .ok (.if_icmp .eq 5, 3)) ∧ (decode prog_4_method_16_code 24 = .ok (.iconst 0, 1)) ∧ (decode prog_4_method_16_code 25 = .ok (.ireturn, 1)) ∧ (decode prog_4_method_16_code 26 = .ok (.iconst 0, 1)) ∧ (decode prog_4_method_16_code 27 = .ok (.istore_n 2, 1)) ∧ (decode prog_4_method_16_code 28 = .ok (.iload_n 2, 1)) ∧ (decode prog_4_method_16_code 29 = .ok (.aload_n 1, 1)) ∧ (decode prog_4_method_16_code 30 = .ok (.invokevirtual 167, 3)) ∧ (decode prog_4_method_16_code 33 = .ok (.if_icmp .ge 30, 3)) ∧ (decode prog_4_method_16_code 36 = .ok (.aload_n 0, 1)) ∧ (decode prog_4_method_16_code 37 = .ok (.getfield 9, 3)) ∧ (decode prog_4_method_16_code 40 = .ok (.aload_n 0, 1)) ∧ (decode prog_4_method_16_code 41 = .ok (.getfield 85, 3)) := by
  have h : List.drop 0 prog_4_method_16_code.data.toList = 0x2a :: _ := rfl
  refine ⟨zq_k_n 42 h rfl (zq_o_42 _), ?_⟩
  replace h := zq_nx1 (q := 1) h rfl
  refine ⟨zq_k_u2 180 (fun z => .getfield z) 40 h rfl (zq_o_180 _) (by decide +kernel), ?_⟩
  replace h := zq_nx3 (q := 4) h rfl
  refine ⟨zq_k_n 4 h rfl (zq_o_4 _), ?_⟩
  replace h := zq_nx1 (q := 5) h rfl
  refine ⟨zq_k_s2 160 (fun z => .if_icmp .ne z) 19 h rfl (zq_o_160 _) (by decide +kernel), ?_⟩
  replace h := zq_nx3 (q := 8) h rfl
  refine ⟨zq_k_n 42 h rfl (zq_o_42 _), ?_⟩
  replace h := zq_nx1 (q := 9) h rfl
  refine ⟨zq_k_u2 180 (fun z => .getfield z) 33 h rfl (zq_o_180 _) (by decide +kernel), ?_⟩
  replace h := zq_nx3 (q := 12) h rfl
  refine ⟨zq_k_n 42 h rfl (zq_o_42 _), ?_⟩
  replace h := zq_nx1 (q := 13) h rfl
  refine ⟨zq_k_u2 180 (fun z => .getfield z) 85 h rfl (zq_o_180 _) (by decide +kernel), ?_⟩
  replace h := zq_nx3 (q := 16) h rfl
  refine ⟨zq_k_n 100 h rfl (zq_o_100 _), ?_⟩
  replace h := zq_nx1 (q := 17) h rfl
  refine ⟨zq_k_n 43 h rfl (zq_o_43 _), ?_⟩
  replace h := zq_nx1 (q := 18) h rfl
  refine ⟨zq_k_u2 182 (fun z => .invokevirtual z) 167 h rfl (zq_o_182 _) (by decide +kernel), ?_⟩
  replace h := zq_nx3 (q := 21) h rfl
  refine ⟨zq_k_s2 159 (fun z => .if_icmp .eq z) 5 h rfl (zq_o_159 _) (by decide +kernel), ?_⟩
  replace h := zq_nx3 (q := 24) h rfl
  refine ⟨zq_k_n 3 h rfl (zq_o_3 _), ?_⟩
  replace h := zq_nx1 (q := 25) h rfl
  refine ⟨zq_k_n 172 h rfl (zq_o_172 _), ?_⟩
  replace h := zq_nx1 (q := 26) h rfl
  refine ⟨zq_k_n 3 h rfl (zq_o_3 _), ?_⟩
  replace h := zq_nx1 (q := 27) h rfl
  refine ⟨zq_k_n 61 h rfl (zq_o_61 _), ?_⟩
  replace h := zq_nx1 (q := 28) h rfl
  refine ⟨zq_k_n 28 h rfl (zq_o_28 _), ?_⟩
  replace h := zq_nx1 (q := 29) h rfl
  refine ⟨zq_k_n 43 h rfl (zq_o_43 _), ?_⟩
  replace h := zq_nx1 (q := 30) h rfl
  refine ⟨zq_k_u2 182 (fun z => .invokevirtual z) 167 h rfl (zq_o_182 _) (by decide +kernel), ?_⟩
  replace h := zq_nx3 (q := 33) h rfl
  refine ⟨zq_k_s2 162 (fun z => .if_icmp .ge z) 30 h rfl (zq_o_162 _) (by decide +kernel), ?_⟩
  replace h := zq_nx3 (q := 36) h rfl
  refine ⟨zq_k_n 42 h rfl (zq_o_42 _), ?_⟩
  replace h := zq_nx1 (q := 37) h rfl
  refine ⟨zq_k_u2 180 (fun z => .getfield z) 9 h rfl (zq_o_180 _) (by decide +kernel), ?_⟩
  replace h := zq_nx3 (q := 40) h rfl
  refine ⟨zq_k_n 42 h rfl (zq_o_42 _), ?_⟩
  replace h := zq_nx1 (q := 41) h rfl
  exact zq_k_u2 180 (fun z => .getfield z) 85 h rfl (zq_o_180 _) (by decide +kernel)
set_option maxRecDepth 100000 in
theorem dd_Reader_isWord_44 : (decode prog_4_method_16_code 44 = .ok (.iload_n 2, 1)) ∧ (decode prog_4_method_16_code 45 = .ok (.iadd, 1)) ∧ (decode prog_4_method_16_code 46 = .ok (.baload, 1)) ∧ (decode prog_4_method_16_code 47 = .ok (.aload_n 1, 1)) ∧ (decode prog_4_method_16_code 48 = .ok (.iload_n 2, 1)) ∧ (decode prog_4_method_16_code 49 = .ok (.invokevirtual 172, 3)) ∧ (decode prog_4_method_16_code 52 = .ok (.if_icmp .eq 5, 3)) ∧ (decode prog_4_method_16_code 55 = .ok (.iconst 0, 1)) ∧ (decode prog_4_method_16_code 56 = .ok (.ireturn, 1)) ∧ (decode prog_4_method_16_code 57 = .ok (.iinc 2 1, 3)) ∧ (decode prog_4_method_16_code 60 = .ok (.goto (-32), 3)) ∧ (decode prog_4_method_16_code 63 = .ok (.iconst 1, 1)) ∧ (decode prog_4_method_16_code 64 = .ok (.ireturn, 1)) := by
  have h : List.drop 44 prog_4_method_16_code.data.toList = 0x1c :: _ := rfl
  refine ⟨zq_k_n 28 h rfl (zq_o_28 _), ?_⟩
  replace h := zq_nx1 (q := 45) h rfl
  refine ⟨zq_k_n 96 h rfl (zq_o_96 _), ?_⟩
  replace h := zq_nx1 (q := 46) h rfl
  refine ⟨zq_k_n 51 h rfl (zq_o_51 _), ?_⟩
  replace h := zq_nx1 (q := 47) h rfl
  refine ⟨zq_k_n 43 h rfl (zq_o_43 _), ?_⟩
  replace h := zq_nx1 (q := 48) h rfl
  refine ⟨zq_k_n 28 h rfl (zq_o_28 _), ?_⟩
  replace h := zq_nx1 (q := 49) h rfl
  refine ⟨zq_k_u2 182 (fun z => .invokevirtual z) 172 h rfl (zq_o_182 _) (by decide +kernel), ?_⟩
  replace h := zq_nx3 (q := 52) h rfl
  refine ⟨zq_k_s2 159 (fun z => .if_icmp .eq z) 5 h rfl (zq_o_159 _) (by decide +kernel), ?_⟩
  replace h := zq_nx3 (q := 55) h rfl
  refine ⟨zq_k_n 3 h rfl (zq_o_3 _), ?_⟩
  replace h := zq_nx1 (q := 56) h rfl
  refine ⟨zq_k_n 172 h rfl (zq_o_172 _), ?_⟩
  replace h := zq_nx1 (q := 57) h rfl
  refine ⟨zq_k_iinc 2 1 h rfl (zq_o_132 _) (by decide +kernel) (by decide +kernel), ?_⟩
  replace h := zq_nx3 (q := 60) h rfl
  refine ⟨zq_k_s2 167 (fun z => .goto z) (-32) h rfl (zq_o_167 _) (by decide +kernel), ?_⟩
  replace h := zq_nx3 (q := 63) h rfl
  refine ⟨zq_k_n 4 h rfl (zq_o_4 _), ?_⟩
  replace h := zq_nx1 (q := 64) h rfl
  exact zq_k_n 172 h rfl (zq_o_172 _)
def f_Reader_isWord_28b (rec28 : Nat → Nat → Int32 → mH → Option (Int32 × mH)) (b0 : Nat) (b1 : Nat) (b2 : Int32) (h : mH) : Option (Int32 × mH) :=
  bd2 (f_String_length b1 h) fun x14 h12 =>
  if x14 ≤ b2 then
    some ((1 : Int32), h12)
  else
    bd1 (gR h12 b0 3 0) fun x15 =>
    bd1 (gI h12 b0 3 7) fun x17 =>
    bd1 (aI h12 1 x15 (x17 + b2)) fun x19 =>
    bd2 (f_String_charAt b1 b2 h12) fun x23 h21 =>
    if x19 = x23 then
      rec28 b0 b1 (b2 + (1 : Int32)) h21
    else
      some ((0 : Int32), h21)
set_option maxRecDepth 20000 in
theorem t_Reader_isWord_28b {sc : Nat × (Nat → Int32)} (rec28 : Nat → Nat → Int32 → mH → Option (Int32 × mH)) (hrec28 : ∀ (b0 : Nat) (b1 : Nat) (b2 : Int32) (h : mH) (r : Int32) (h' : mH), rec28 b0 b1 b2 h = some (r, h') → G sc y_Reader_isWord prog_4_method_16_code 3 (some .boolean) 4 85 28 [(0, .ref b0), (1, .ref b1), (2, .int b2)] [] h (some (.int r)) h') (b0 : Nat) (b1 : Nat) (b2 : Int32) (h : mH) (r : Int32) (h' : mH) (hf : f_Reader_isWord_28b rec28 b0 b1 b2 h = some (r, h')) : G sc y_Reader_isWord prog_4_method_16_code 3 (some .boolean) 4 85 28 [(0, .ref b0), (1, .ref b1), (2, .int b2)] [] h (some (.int r)) h' := by
  unfold f_Reader_isWord_28b at hf
  refine g_iload_n (pc := 28) 2 dd_Reader_isWord_0.2.2.2.2.2.2.2.2.2.2.2.2.2.2.2.2.1 rfl rfl ?_
  refine g_aload_n (pc := 29) 1 dd_Reader_isWord_0.2.2.2.2.2.2.2.2.2.2.2.2.2.2.2.2.2.1 rfl rfl ?_
  obtain ⟨x14, h12, e13, hf⟩ := bd2_e hf
  refine g_callTo (pc := 30) [] (str_of_len e13) (site_of si_String_length (by decide) (by decide)) wd_386 wd_387 wd_388 dd_Reader_isWord_0.2.2.2.2.2.2.2.2.2.2.2.2.2.2.2.2.2.2.1 (Nat.le_of_ble_eq_true rfl) (fun z => absurd z si_na_String_length) (fun z => absurd z si_na_String_length) (fun z => absurd z si_na_String_length) (c_String_length e13) rfl ?_
  refine g_st [.int x14, .int b2] rfl ?_
  refine g_icmpge (pc := 33) 63 dd_Reader_isWord_0.2.2.2.2.2.2.2.2.2.2.2.2.2.2.2.2.2.2.2.1 (by decide) (fun c25 => ?_) (fun c25 => ?_)
  · replace hf := (if_pos c25).symm.trans hf
    refine g_iconst (pc := 63) (1 : Int32) dd_Reader_isWord_44.2.2.2.2.2.2.2.2.2.2.2.1 (by decide) ?_
    obtain ⟨rfl, rfl⟩ := ret2 hf
    exact g_zret (pc := 64) rfl rfl dd_Reader_isWord_44.2.2.2.2.2.2.2.2.2.2.2.2
  · replace hf := (if_neg c25).symm.trans hf
    refine g_aload_n (pc := 36) 0 dd_Reader_isWord_0.2.2.2.2.2.2.2.2.2.2.2.2.2.2.2.2.2.2.2.2.1 rfl rfl ?_
    obtain ⟨x15, e16, hf⟩ := bd1_e hf
    refine g_get (pc := 37) (ci := 3) (kk := 0) dd_Reader_isWord_0.2.2.2.2.2.2.2.2.2.2.2.2.2.2.2.2.2.2.2.2.2.1 rfl in_Reader (by decide) wd_32 (gR_spec e16) ?_
    refine g_aload_n (pc := 40) 0 dd_Reader_isWord_0.2.2.2.2.2.2.2.2.2.2.2.2.2.2.2.2.2.2.2.2.2.2.1 rfl rfl ?_
    obtain ⟨x17, e18, hf⟩ := bd1_e hf
    refine g_get (pc := 41) (ci := 3) (kk := 7) dd_Reader_isWord_0.2.2.2.2.2.2.2.2.2.2.2.2.2.2.2.2.2.2.2.2.2.2.2 rfl in_Reader (by decide) wd_43 (gI_spec e18) ?_
    refine g_iload_n (pc := 44) 2 dd_Reader_isWord_44.1 rfl rfl ?_
    refine g_iadd (pc := 45) dd_Reader_isWord_44.2.1 ?_
    obtain ⟨x19, e20, hf⟩ := bd1_e hf
    refine g_bald (pc := 46) dd_Reader_isWord_44.2.2.1 e20 ?_
    refine g_aload_n (pc := 47) 1 dd_Reader_isWord_44.2.2.2.1 rfl rfl ?_
    refine g_iload_n (pc := 48) 2 dd_Reader_isWord_44.2.2.2.2.1 rfl rfl ?_
    obtain ⟨x23, h21, e22, hf⟩ := bd2_e hf
    refine g_callTo (pc := 49) [.int b2] (str_of_at e22) (site_of si_String_charAt (by decide) (by decide)) wd_396 wd_397 wd_398 dd_Reader_isWord_44.2.2.2.2.2.1 (Nat.le_of_ble_eq_true rfl) (fun z => absurd z si_na_String_charAt) (fun z => absurd z si_na_String_charAt) (fun z => absurd z si_na_String_charAt) (c_String_charAt e22) rfl ?_
    refine g_st [.int x23, .int x19] rfl ?_
    refine g_icmpeq (pc := 52) 57 dd_Reader_isWord_44.2.2.2.2.2.2.1 (by decide) (fun c24 => ?_) (fun c24 => ?_)
    · replace hf := (if_pos c24).symm.trans hf
      refine g_iinc (pc := 57) 2 (b2 + (1 : Int32)) [(2, .int (b2 + (1 : Int32))), (0, .ref b0), (1, .ref b1)] dd_Reader_isWord_44.2.2.2.2.2.2.2.2.2.1 rfl rfl (Nat.le_of_ble_eq_true rfl) rfl ?_
      refine g_goto (pc := 60) 28 dd_Reader_isWord_44.2.2.2.2.2.2.2.2.2.2.1 (by decide) ?_
      refine g_lv [1, 2, 0] rfl ?_
      exact hrec28 _ _ _ _ _ _  hf
    · replace hf := (if_neg c24).symm.trans hf
      refine g_iconst (pc := 55) (0 : Int32) dd_Reader_isWord_44.2.2.2.2.2.2.2.1 (by decide) ?_
      obtain ⟨rfl, rfl⟩ := ret2 hf
      exact g_zret (pc := 56) rfl rfl dd_Reader_isWord_44.2.2.2.2.2.2.2.2.1
def f_Reader_isWord_28  : Nat → Nat → Nat → Int32 → mH → Option (Int32 × mH)
  | 0 => fun _ _ _ _ => none
  | n + 1 => f_Reader_isWord_28b  (f_Reader_isWord_28  n)
theorem t_Reader_isWord_28 {sc : Nat × (Nat → Int32)}  : ∀ (n : Nat) (b0 : Nat) (b1 : Nat) (b2 : Int32) (h : mH) (r : Int32) (h' : mH) (hf : f_Reader_isWord_28  n b0 b1 b2 h = some (r, h')), G sc y_Reader_isWord prog_4_method_16_code 3 (some .boolean) 4 85 28 [(0, .ref b0), (1, .ref b1), (2, .int b2)] [] h (some (.int r)) h'
  | 0, _, _, _, _, _, _, hf => by cases hf
  | n + 1, _, _, _, _, _, _, hf => t_Reader_isWord_28b  (f_Reader_isWord_28  n) (t_Reader_isWord_28  n) _ _ _ _ _ _ hf
def f_Reader_isWord_24   (h : mH) : Option (Int32 × mH) :=
  some ((0 : Int32), h)
set_option maxRecDepth 20000 in
theorem t_Reader_isWord_24 {sc : Nat × (Nat → Int32)}   (h : mH) (r : Int32) (h' : mH) (hf : f_Reader_isWord_24   h = some (r, h')) : G sc y_Reader_isWord prog_4_method_16_code 3 (some .boolean) 4 85 24 [] [] h (some (.int r)) h' := by
  unfold f_Reader_isWord_24 at hf
  refine g_iconst (pc := 24) (0 : Int32) dd_Reader_isWord_0.2.2.2.2.2.2.2.2.2.2.2.2.1 (by decide) ?_
  obtain ⟨rfl, rfl⟩ := ret2 hf
  exact g_zret (pc := 25) rfl rfl dd_Reader_isWord_0.2.2.2.2.2.2.2.2.2.2.2.2.2.1
def f_Reader_isWord_0  (a0 : Nat) (a1 : Nat) (h : mH) : Option (Int32 × mH) :=
  bd1 (gI h a0 3 6) fun x1 =>
  if x1 = (1 : Int32) then
    bd1 (gI h a0 3 5) fun x3 =>
    bd1 (gI h a0 3 7) fun x5 =>
    bd2 (f_String_length a1 h) fun x9 h7 =>
    if (x3 - x5) = x9 then
      f_Reader_isWord_28  FU a0 a1 (0 : Int32) h7
    else
      f_Reader_isWord_24  h7
  else
    f_Reader_isWord_24  h
set_option maxRecDepth 20000 in
theorem t_Reader_isWord_0 {sc : Nat × (Nat → Int32)}  (a0 : Nat) (a1 : Nat) (h : mH) (r : Int32) (h' : mH) (hf : f_Reader_isWord_0  a0 a1 h = some (r, h')) : G sc y_Reader_isWord prog_4_method_16_code 3 (some .boolean) 4 85 0 [(0, .ref a0), (1, .ref a1)] [] h (some (.int r)) h' := by
  unfold f_Reader_isWord_0 at hf
  refine g_aload_n (pc := 0) 0 dd_Reader_isWord_0.1 rfl rfl ?_
  obtain ⟨x1, e2, hf⟩ := bd1_e hf
  refine g_get (pc := 1) (ci := 3) (kk := 6) dd_Reader_isWord_0.2.1 rfl in_Reader (by decide) wd_42 (gI_spec e2) ?_
  refine g_iconst (pc := 4) (1 : Int32) dd_Reader_isWord_0.2.2.1 (by decide) ?_
  refine g_icmpne (pc := 5) 24 dd_Reader_isWord_0.2.2.2.1 (by decide) (fun c11 => ?_) (fun c11 => ?_)
  · replace hf := (if_neg c11).symm.trans hf
    refine g_lv [] rfl ?_
    exact t_Reader_isWord_24  _ _ _  hf
  · replace hf := (if_pos c11).symm.trans hf
    refine g_aload_n (pc := 8) 0 dd_Reader_isWord_0.2.2.2.2.1 rfl rfl ?_
    obtain ⟨x3, e4, hf⟩ := bd1_e hf
    refine g_get (pc := 9) (ci := 3) (kk := 5) dd_Reader_isWord_0.2.2.2.2.2.1 rfl in_Reader (by decide) wd_41 (gI_spec e4) ?_
    refine g_aload_n (pc := 12) 0 dd_Reader_isWord_0.2.2.2.2.2.2.1 rfl rfl ?_
    obtain ⟨x5, e6, hf⟩ := bd1_e hf
    refine g_get (pc := 13) (ci := 3) (kk := 7) dd_Reader_isWord_0.2.2.2.2.2.2.2.1 rfl in_Reader (by decide) wd_43 (gI_spec e6) ?_
    refine g_isub (pc := 16) dd_Reader_isWord_0.2.2.2.2.2.2.2.2.1 ?_
    refine g_aload_n (pc := 17) 1 dd_Reader_isWord_0.2.2.2.2.2.2.2.2.2.1 rfl rfl ?_
    obtain ⟨x9, h7, e8, hf⟩ := bd2_e hf
    refine g_callTo (pc := 18) [] (str_of_len e8) (site_of si_String_length (by decide) (by decide)) wd_386 wd_387 wd_388 dd_Reader_isWord_0.2.2.2.2.2.2.2.2.2.2.1 (Nat.le_of_ble_eq_true rfl) (fun z => absurd z si_na_String_length) (fun z => absurd z si_na_String_length) (fun z => absurd z si_na_String_length) (c_String_length e8) rfl ?_
    refine g_st [.int x9, .int (x3 - x5)] rfl ?_
    refine g_icmpeq (pc := 21) 26 dd_Reader_isWord_0.2.2.2.2.2.2.2.2.2.2.2.1 (by decide) (fun c10 => ?_) (fun c10 => ?_)
    · replace hf := (if_pos c10).symm.trans hf
      refine g_iconst (pc := 26) (0 : Int32) dd_Reader_isWord_0.2.2.2.2.2.2.2.2.2.2.2.2.2.2.1 (by decide) ?_
      refine g_istore_n (pc := 27) [(2, .int (0 : Int32)), (0, .ref a0), (1, .ref a1)] dd_Reader_isWord_0.2.2.2.2.2.2.2.2.2.2.2.2.2.2.2.1 rfl (Nat.le_of_ble_eq_true rfl) rfl ?_
      refine g_lv [1, 2, 0] rfl ?_
      exact t_Reader_isWord_28  FU _ _ _ _ _ _  hf
    · replace hf := (if_neg c10).symm.trans hf
      refine g_lv [] rfl ?_
      exact t_Reader_isWord_24  _ _ _  hf
def f_Reader_isWord (a0 : Nat) (a1 : Nat) (h : mH) : Option (Int32 × mH) := f_Reader_isWord_0 a0 a1 h
theorem c_Reader_isWord {sc : Nat × (Nat → Int32)} {a0 : Nat} {a1 : Nat} {h : mH} {r : Int32} {h' : mH} (hf : f_Reader_isWord a0 a1 h = some (r, h')) : MM sc y_Reader_isWord prog_4_method_16_code 3 (some .boolean) 4 85 [.ref a0, .ref a1] h (some (.int r)) h' :=
  mm_of_G si_pn_Reader (Nat.le_of_ble_eq_true rfl) (t_Reader_isWord_0 _ _ _ _ _ hf)
/-! Reader isBounded (II)Z -/
set_option maxRecDepth 100000 in
theorem dd_Reader_isBounded_0 : (decode prog_4_method_14_code 0 = .ok (.aload_n 0, 1)) ∧ (decode prog_4_method_14_code 1 = .ok (.getfield 123, 3)) ∧ (decode prog_4_method_14_code 4 = .ok (.iload_n 1, 1)) ∧ (decode prog_4_method_14_code 5 = .ok (.iload_n 2, 1)) ∧ (decode prog_4_method_14_code 6 = .ok (.invokestatic 163, 3)) ∧ (decode prog_4_method_14_code 9 = .ok (.ifCond .ne 15, 3)) ∧ (decode prog_4_method_14_code 12 = .ok (.aload_n 0, 1)) ∧ (decode prog_4_method_14_code 13 = .ok (.iconst 3, 1)) ∧ (decode prog_4_method_14_code 14 = .ok (.aload_n 0, 1)) ∧ (decode prog_4_method_14_code 15 = .ok (.getfield 85, 3)) ∧ (decode prog_4_method_14_code 18 = .ok (.invokevirtual 50, 3)) ∧ (decode prog_4_method_14_code 21 = .ok (.ifCond .eq 7, 3)) ∧ (decode prog_4_method_14_code 24 = .ok (.iconst 1, 1)) ∧ (decode prog_4_method_14_code 25 = .ok (.goto 4, 3)) ∧ (decode prog_4_method_14_code 28 = .ok (.iconst 0, 1)) ∧ (decode prog_4_method_14_code 29 = .ok (.ireturn, 1)) := by
  have h : List.drop 0 prog_4_method_14_code.data.toList = 0x2a :: _ := rfl
  refine ⟨zq_k_n 42 h rfl (zq_o_42 _), ?_⟩
  replace h := zq_nx1 (q := 1) h rfl
  refine ⟨zq_k_u2 180 (fun z => .getfield z) 123 h rfl (zq_o_180 _) (by decide +kernel), ?_⟩
  replace h := zq_nx3 (q := 4) h rfl
  refine ⟨zq_k_n 27 h rfl (zq_o_27 _), ?_⟩
  replace h := zq_nx1 (q := 5) h rfl
  refine ⟨zq_k_n 28 h rfl (zq_o_28 _), ?_⟩
  replace h := zq_nx1 (q := 6) h rfl
  refine ⟨zq_k_u2 184 (fun z => .invokestatic z) 163 h rfl (zq_o_184 _) (by decide +kernel), ?_⟩
  replace h := zq_nx3 (q := 9) h rfl
  refine ⟨zq_k_s2 154 (fun z => .ifCond .ne z) 15 h rfl (zq_o_154 _) (by decide +kernel), ?_⟩
  replace h := zq_nx3 (q := 12) h rfl
  refine ⟨zq_k_n 42 h rfl (zq_o_42 _), ?_⟩
  replace h := zq_nx1 (q := 13) h rfl
  refine ⟨zq_k_n 6 h rfl (zq_o_6 _), ?_⟩
  replace h := zq_nx1 (q := 14) h rfl
  refine ⟨zq_k_n 42 h rfl (zq_o_42 _), ?_⟩
  replace h := zq_nx1 (q := 15) h rfl
  refine ⟨zq_k_u2 180 (fun z => .getfield z) 85 h rfl (zq_o_180 _) (by decide +kernel), ?_⟩
  replace h := zq_nx3 (q := 18) h rfl
  refine ⟨zq_k_u2 182 (fun z => .invokevirtual z) 50 h rfl (zq_o_182 _) (by decide +kernel), ?_⟩
  replace h := zq_nx3 (q := 21) h rfl
  refine ⟨zq_k_s2 153 (fun z => .ifCond .eq z) 7 h rfl (zq_o_153 _) (by decide +kernel), ?_⟩
  replace h := zq_nx3 (q := 24) h rfl
  refine ⟨zq_k_n 4 h rfl (zq_o_4 _), ?_⟩
  replace h := zq_nx1 (q := 25) h rfl
  refine ⟨zq_k_s2 167 (fun z => .goto z) 4 h rfl (zq_o_167 _) (by decide +kernel), ?_⟩
  replace h := zq_nx3 (q := 28) h rfl
  refine ⟨zq_k_n 3 h rfl (zq_o_3 _), ?_⟩
  replace h := zq_nx1 (q := 29) h rfl
  exact zq_k_n 172 h rfl (zq_o_172 _)
def f_Reader_isBounded_24   (h : mH) : Option (Int32 × mH) :=
  some ((1 : Int32), h)
set_option maxRecDepth 20000 in
theorem t_Reader_isBounded_24 {sc : Nat × (Nat → Int32)}   (h : mH) (r : Int32) (h' : mH) (hf : f_Reader_isBounded_24   h = some (r, h')) : G sc y_Reader_isBounded prog_4_method_14_code 3 (some .boolean) 1 22 24 [] [] h (some (.int r)) h' := by
  unfold f_Reader_isBounded_24 at hf
  refine g_iconst (pc := 24) (1 : Int32) dd_Reader_isBounded_0.2.2.2.2.2.2.2.2.2.2.2.2.1 (by decide) ?_
  refine g_goto (pc := 25) 29 dd_Reader_isBounded_0.2.2.2.2.2.2.2.2.2.2.2.2.2.1 (by decide) ?_
  obtain ⟨rfl, rfl⟩ := ret2 hf
  exact g_zret (pc := 29) rfl rfl dd_Reader_isBounded_0.2.2.2.2.2.2.2.2.2.2.2.2.2.2.2
def f_Reader_isBounded_0  (a0 : Nat) (a1 : Int32) (a2 : Int32) (h : mH) : Option (Int32 × mH) :=
  bd1 (gI h a0 3 8) fun x1 =>
  bd2 (f_Q_isWithin x1 a1 a2 h) fun x5 h3 =>
  if x5 = 0 then
    bd1 (gI h3 a0 3 7) fun x6 =>
    bd1 (kC h3 a0 3) fun _ =>
    bd2 (f_Reader_fail a0 (3 : Int32) x6 h3) fun x12 h10 =>
    if x12 = 0 then
      some ((0 : Int32), h10)
    else
      f_Reader_isBounded_24  h10
  else
    f_Reader_isBounded_24  h3
set_option maxRecDepth 20000 in
theorem t_Reader_isBounded_0 {sc : Nat × (Nat → Int32)}  (a0 : Nat) (a1 : Int32) (a2 : Int32) (h : mH) (r : Int32) (h' : mH) (hf : f_Reader_isBounded_0  a0 a1 a2 h = some (r, h')) : G sc y_Reader_isBounded prog_4_method_14_code 3 (some .boolean) 1 22 0 [(0, .ref a0), (1, .int a1), (2, .int a2)] [] h (some (.int r)) h' := by
  unfold f_Reader_isBounded_0 at hf
  refine g_aload_n (pc := 0) 0 dd_Reader_isBounded_0.1 rfl rfl ?_
  obtain ⟨x1, e2, hf⟩ := bd1_e hf
  refine g_get (pc := 1) (ci := 3) (kk := 8) dd_Reader_isBounded_0.2.1 rfl in_Reader (by decide) wd_44 (gI_spec e2) ?_
  refine g_iload_n (pc := 4) 1 dd_Reader_isBounded_0.2.2.1 rfl rfl ?_
  refine g_iload_n (pc := 5) 2 dd_Reader_isBounded_0.2.2.2.1 rfl rfl ?_
  obtain ⟨x5, h3, e4, hf⟩ := bd2_e hf
  refine g_callSN (pc := 6) "QuotaLaws" [.int x1, .int a1, .int a2] (site_of si_Q_isWithin (by decide) (by decide)) wd_446 wd_332 dd_Reader_isBounded_0.2.2.2.2.1 (Nat.le_of_ble_eq_true rfl) (fun z => absurd z si_na_Q_isWithin) (fun z => absurd z si_na_Q_isWithin) (fun z => absurd z si_na_Q_isWithin) (c_Q_isWithin e4) rfl ?_
  refine g_st [.int x5] rfl ?_
  refine g_ifne (pc := 9) 24 dd_Reader_isBounded_0.2.2.2.2.2.1 (by decide) (fun c14 => ?_) (fun c14 => ?_)
  · replace hf := (if_neg c14).symm.trans hf
    refine g_lv [] rfl ?_
    exact t_Reader_isBounded_24  _ _ _  hf
  · replace hf := (if_pos c14).symm.trans hf
    refine g_aload_n (pc := 12) 0 dd_Reader_isBounded_0.2.2.2.2.2.2.1 rfl rfl ?_
    refine g_iconst (pc := 13) (3 : Int32) dd_Reader_isBounded_0.2.2.2.2.2.2.2.1 (by decide) ?_
    refine g_aload_n (pc := 14) 0 dd_Reader_isBounded_0.2.2.2.2.2.2.2.2.1 rfl rfl ?_
    obtain ⟨x6, e7, hf⟩ := bd1_e hf
    refine g_get (pc := 15) (ci := 3) (kk := 7) dd_Reader_isBounded_0.2.2.2.2.2.2.2.2.2.1 rfl in_Reader (by decide) wd_43 (gI_spec e7) ?_
    obtain ⟨u9, e8, hf⟩ := bd1_e hf
    obtain ⟨x12, h10, e11, hf⟩ := bd2_e hf
    refine g_callV (pc := 18) (ci := 3) [.int (3 : Int32), .int x6] (site_of si_Reader_fail (by decide) (by decide)) wd_373 wd_375 wp_4 dd_Reader_isBounded_0.2.2.2.2.2.2.2.2.2.2.1 rfl e8 (Nat.le_of_ble_eq_true rfl) (fun z => absurd z si_na_Reader_fail) (fun z => absurd z si_na_Reader_fail) (fun z => absurd z si_na_Reader_fail) (c_Reader_fail e11) rfl ?_
    refine g_st [.int x12] rfl ?_
    refine g_ifeq (pc := 21) 28 dd_Reader_isBounded_0.2.2.2.2.2.2.2.2.2.2.2.1 (by decide) (fun c13 => ?_) (fun c13 => ?_)
    · replace hf := (if_pos c13).symm.trans hf
      refine g_iconst (pc := 28) (0 : Int32) dd_Reader_isBounded_0.2.2.2.2.2.2.2.2.2.2.2.2.2.2.1 (by decide) ?_
      obtain ⟨rfl, rfl⟩ := ret2 hf
      exact g_zret (pc := 29) rfl rfl dd_Reader_isBounded_0.2.2.2.2.2.2.2.2.2.2.2.2.2.2.2
    · replace hf := (if_neg c13).symm.trans hf
      refine g_lv [] rfl ?_
      exact t_Reader_isBounded_24  _ _ _  hf
def f_Reader_isBounded (a0 : Nat) (a1 : Int32) (a2 : Int32) (h : mH) : Option (Int32 × mH) := f_Reader_isBounded_0 a0 a1 a2 h
theorem c_Reader_isBounded {sc : Nat × (Nat → Int32)} {a0 : Nat} {a1 : Int32} {a2 : Int32} {h : mH} {r : Int32} {h' : mH} (hf : f_Reader_isBounded a0 a1 a2 h = some (r, h')) : MM sc y_Reader_isBounded prog_4_method_14_code 3 (some .boolean) 1 22 [.ref a0, .int a1, .int a2] h (some (.int r)) h' :=
  mm_of_G si_pn_Reader (Nat.le_of_ble_eq_true rfl) (t_Reader_isBounded_0 _ _ _ _ _ _ hf)
/-! Reader takeNumber (II)Z -/
set_option maxRecDepth 100000 in
theorem dd_Reader_takeNumber_0 : (decode prog_4_method_13_code 0 = .ok (.aload_n 0, 1)) ∧ (decode prog_4_method_13_code 1 = .ok (.invokevirtual 36, 3)) ∧ (decode prog_4_method_13_code 4 = .ok (.ifCond .ne 5, 3)) ∧ (decode prog_4_method_13_code 7 = .ok (.iconst 0, 1)) ∧ (decode prog_4_method_13_code 8 = .ok (.ireturn, 1)) ∧ (decode prog_4_method_13_code 9 = .ok (.aload_n 0, 1)) ∧ (decode prog_4_method_13_code 10 = .ok (.getfield 40, 3)) ∧ (decode prog_4_method_13_code 13 = .ok (.iconst 2, 1)) ∧ (decode prog_4_method_13_code 14 = .ok (.if_icmp .ne 12, 3)) ∧ (decode prog_4_method_13_code 17 = .ok (.aload_n 0, 1)) ∧ (decode prog_4_method_13_code 18 = .ok (.iload_n 1, 1)) ∧ (decode prog_4_method_13_code 19 = .ok (.iload_n 2, 1)) ∧ (decode prog_4_method_13_code 20 = .ok (.invokevirtual 120, 3)) ∧ (decode prog_4_method_13_code 23 = .ok (.goto 12, 3)) ∧ (decode prog_4_method_13_code 26 = .ok (.aload_n 0, 1)) ∧ (decode prog_4_method_13_code 27 = .ok (.iconst 2, 1)) ∧ (decode prog_4_method_13_code 28 = .ok (.aload_n 0, 1)) ∧ (decode prog_4_method_13_code 29 = .ok (.getfield 85, 3)) ∧ (decode prog_4_method_13_code 32 = .ok (.invokevirtual 50, 3)) ∧ (decode prog_4_method_13_code 35 = .ok (.ireturn, 1)) := by
  have h : List.drop 0 prog_4_method_13_code.data.toList = 0x2a :: _ := rfl
  refine ⟨zq_k_n 42 h rfl (zq_o_42 _), ?_⟩
  replace h := zq_nx1 (q := 1) h rfl
  refine ⟨zq_k_u2 182 (fun z => .invokevirtual z) 36 h rfl (zq_o_182 _) (by decide +kernel), ?_⟩
  replace h := zq_nx3 (q := 4) h rfl
  refine ⟨zq_k_s2 154 (fun z => .ifCond .ne z) 5 h rfl (zq_o_154 _) (by decide +kernel), ?_⟩
  replace h := zq_nx3 (q := 7) h rfl
  refine ⟨zq_k_n 3 h rfl (zq_o_3 _), ?_⟩
  replace h := zq_nx1 (q := 8) h rfl
  refine ⟨zq_k_n 172 h rfl (zq_o_172 _), ?_⟩
  replace h := zq_nx1 (q := 9) h rfl
  refine ⟨zq_k_n 42 h rfl (zq_o_42 _), ?_⟩
  replace h := zq_nx1 (q := 10) h rfl
  refine ⟨zq_k_u2 180 (fun z => .getfield z) 40 h rfl (zq_o_180 _) (by decide +kernel), ?_⟩
  replace h := zq_nx3 (q := 13) h rfl
  refine ⟨zq_k_n 5 h rfl (zq_o_5 _), ?_⟩
  replace h := zq_nx1 (q := 14) h rfl
  refine ⟨zq_k_s2 160 (fun z => .if_icmp .ne z) 12 h rfl (zq_o_160 _) (by decide +kernel), ?_⟩
  replace h := zq_nx3 (q := 17) h rfl
  refine ⟨zq_k_n 42 h rfl (zq_o_42 _), ?_⟩
  replace h := zq_nx1 (q := 18) h rfl
  refine ⟨zq_k_n 27 h rfl (zq_o_27 _), ?_⟩
  replace h := zq_nx1 (q := 19) h rfl
  refine ⟨zq_k_n 28 h rfl (zq_o_28 _), ?_⟩
  replace h := zq_nx1 (q := 20) h rfl
  refine ⟨zq_k_u2 182 (fun z => .invokevirtual z) 120 h rfl (zq_o_182 _) (by decide +kernel), ?_⟩
  replace h := zq_nx3 (q := 23) h rfl
  refine ⟨zq_k_s2 167 (fun z => .goto z) 12 h rfl (zq_o_167 _) (by decide +kernel), ?_⟩
  replace h := zq_nx3 (q := 26) h rfl
  refine ⟨zq_k_n 42 h rfl (zq_o_42 _), ?_⟩
  replace h := zq_nx1 (q := 27) h rfl
  refine ⟨zq_k_n 5 h rfl (zq_o_5 _), ?_⟩
  replace h := zq_nx1 (q := 28) h rfl
  refine ⟨zq_k_n 42 h rfl (zq_o_42 _), ?_⟩
  replace h := zq_nx1 (q := 29) h rfl
  refine ⟨zq_k_u2 180 (fun z => .getfield z) 85 h rfl (zq_o_180 _) (by decide +kernel), ?_⟩
  replace h := zq_nx3 (q := 32) h rfl
  refine ⟨zq_k_u2 182 (fun z => .invokevirtual z) 50 h rfl (zq_o_182 _) (by decide +kernel), ?_⟩
  replace h := zq_nx3 (q := 35) h rfl
  exact zq_k_n 172 h rfl (zq_o_172 _)
def f_Reader_takeNumber_0  (a0 : Nat) (a1 : Int32) (a2 : Int32) (h : mH) : Option (Int32 × mH) :=
  bd1 (kC h a0 3) fun _ =>
  bd2 (f_Reader_takeToken a0 h) fun x5 h3 =>
  if x5 = 0 then
    some ((0 : Int32), h3)
  else
    bd1 (gI h3 a0 3 6) fun x6 =>
    if x6 = (2 : Int32) then
      bd1 (kC h3 a0 3) fun _ =>
      bd2 (f_Reader_isBounded a0 a1 a2 h3) fun x20 h18 =>
      if x20 = 0 ∨ x20 = 1 then some (x20, h18) else none
    else
      bd1 (gI h3 a0 3 7) fun x8 =>
      bd1 (kC h3 a0 3) fun _ =>
      bd2 (f_Reader_fail a0 (2 : Int32) x8 h3) fun x14 h12 =>
      if x14 = 0 ∨ x14 = 1 then some (x14, h12) else none
set_option maxRecDepth 20000 in
theorem t_Reader_takeNumber_0 {sc : Nat × (Nat → Int32)}  (a0 : Nat) (a1 : Int32) (a2 : Int32) (h : mH) (r : Int32) (h' : mH) (hf : f_Reader_takeNumber_0  a0 a1 a2 h = some (r, h')) : G sc y_Reader_takeNumber prog_4_method_13_code 3 (some .boolean) 2 44 0 [(0, .ref a0), (1, .int a1), (2, .int a2)] [] h (some (.int r)) h' := by
  unfold f_Reader_takeNumber_0 at hf
  refine g_aload_n (pc := 0) 0 dd_Reader_takeNumber_0.1 rfl rfl ?_
  obtain ⟨u2, e1, hf⟩ := bd1_e hf
  obtain ⟨x5, h3, e4, hf⟩ := bd2_e hf
  refine g_callV (pc := 1) (ci := 3) [] (site_of si_Reader_takeToken (by decide) (by decide)) wd_357 wd_359 wp_0 dd_Reader_takeNumber_0.2.1 rfl e1 (Nat.le_of_ble_eq_true rfl) (fun z => absurd z si_na_Reader_takeToken) (fun z => absurd z si_na_Reader_takeToken) (fun z => absurd z si_na_Reader_takeToken) (c_Reader_takeToken e4) rfl ?_
  refine g_st [.int x5] rfl ?_
  refine g_ifne (pc := 4) 9 dd_Reader_takeNumber_0.2.2.1 (by decide) (fun c23 => ?_) (fun c23 => ?_)
  · replace hf := (if_neg c23).symm.trans hf
    refine g_aload_n (pc := 9) 0 dd_Reader_takeNumber_0.2.2.2.2.2.1 rfl rfl ?_
    obtain ⟨x6, e7, hf⟩ := bd1_e hf
    refine g_get (pc := 10) (ci := 3) (kk := 6) dd_Reader_takeNumber_0.2.2.2.2.2.2.1 rfl in_Reader (by decide) wd_42 (gI_spec e7) ?_
    refine g_iconst (pc := 13) (2 : Int32) dd_Reader_takeNumber_0.2.2.2.2.2.2.2.1 (by decide) ?_
    refine g_icmpne (pc := 14) 26 dd_Reader_takeNumber_0.2.2.2.2.2.2.2.2.1 (by decide) (fun c22 => ?_) (fun c22 => ?_)
    · replace hf := (if_neg c22).symm.trans hf
      refine g_aload_n (pc := 26) 0 dd_Reader_takeNumber_0.2.2.2.2.2.2.2.2.2.2.2.2.2.2.1 rfl rfl ?_
      refine g_iconst (pc := 27) (2 : Int32) dd_Reader_takeNumber_0.2.2.2.2.2.2.2.2.2.2.2.2.2.2.2.1 (by decide) ?_
      refine g_aload_n (pc := 28) 0 dd_Reader_takeNumber_0.2.2.2.2.2.2.2.2.2.2.2.2.2.2.2.2.1 rfl rfl ?_
      obtain ⟨x8, e9, hf⟩ := bd1_e hf
      refine g_get (pc := 29) (ci := 3) (kk := 7) dd_Reader_takeNumber_0.2.2.2.2.2.2.2.2.2.2.2.2.2.2.2.2.2.1 rfl in_Reader (by decide) wd_43 (gI_spec e9) ?_
      obtain ⟨u11, e10, hf⟩ := bd1_e hf
      obtain ⟨x14, h12, e13, hf⟩ := bd2_e hf
      refine g_callV (pc := 32) (ci := 3) [.int (2 : Int32), .int x8] (site_of si_Reader_fail (by decide) (by decide)) wd_373 wd_375 wp_4 dd_Reader_takeNumber_0.2.2.2.2.2.2.2.2.2.2.2.2.2.2.2.2.2.2.1 rfl e10 (Nat.le_of_ble_eq_true rfl) (fun z => absurd z si_na_Reader_fail) (fun z => absurd z si_na_Reader_fail) (fun z => absurd z si_na_Reader_fail) (c_Reader_fail e13) rfl ?_
      refine g_st [.int x14] rfl ?_
      by_cases c15 : x14 = 0 ∨ x14 = 1
      · replace hf := (if_pos c15).symm.trans hf
        obtain ⟨rfl, rfl⟩ := ret2 hf
        exact g_zret (pc := 35) rfl (nar_z c15) dd_Reader_takeNumber_0.2.2.2.2.2.2.2.2.2.2.2.2.2.2.2.2.2.2.2
      · exact absurd ((if_neg c15).symm.trans hf) (by simp)
    · replace hf := (if_pos c22).symm.trans hf
      refine g_aload_n (pc := 17) 0 dd_Reader_takeNumber_0.2.2.2.2.2.2.2.2.2.1 rfl rfl ?_
      refine g_iload_n (pc := 18) 1 dd_Reader_takeNumber_0.2.2.2.2.2.2.2.2.2.2.1 rfl rfl ?_
      refine g_iload_n (pc := 19) 2 dd_Reader_takeNumber_0.2.2.2.2.2.2.2.2.2.2.2.1 rfl rfl ?_
      obtain ⟨u17, e16, hf⟩ := bd1_e hf
      obtain ⟨x20, h18, e19, hf⟩ := bd2_e hf
      refine g_callV (pc := 20) (ci := 3) [.int a1, .int a2] (site_of si_Reader_isBounded (by decide) (by decide)) wd_442 wd_444 wp_9 dd_Reader_takeNumber_0.2.2.2.2.2.2.2.2.2.2.2.2.1 rfl e16 (Nat.le_of_ble_eq_true rfl) (fun z => absurd z si_na_Reader_isBounded) (fun z => absurd z si_na_Reader_isBounded) (fun z => absurd z si_na_Reader_isBounded) (c_Reader_isBounded e19) rfl ?_
      refine g_st [.int x20] rfl ?_
      refine g_goto (pc := 23) 35 dd_Reader_takeNumber_0.2.2.2.2.2.2.2.2.2.2.2.2.2.1 (by decide) ?_
      by_cases c21 : x20 = 0 ∨ x20 = 1
      · replace hf := (if_pos c21).symm.trans hf
        obtain ⟨rfl, rfl⟩ := ret2 hf
        exact g_zret (pc := 35) rfl (nar_z c21) dd_Reader_takeNumber_0.2.2.2.2.2.2.2.2.2.2.2.2.2.2.2.2.2.2.2
      · exact absurd ((if_neg c21).symm.trans hf) (by simp)
  · replace hf := (if_pos c23).symm.trans hf
    refine g_iconst (pc := 7) (0 : Int32) dd_Reader_takeNumber_0.2.2.2.1 (by decide) ?_
    obtain ⟨rfl, rfl⟩ := ret2 hf
    exact g_zret (pc := 8) rfl rfl dd_Reader_takeNumber_0.2.2.2.2.1
def f_Reader_takeNumber (a0 : Nat) (a1 : Int32) (a2 : Int32) (h : mH) : Option (Int32 × mH) := f_Reader_takeNumber_0 a0 a1 a2 h
theorem c_Reader_takeNumber {sc : Nat × (Nat → Int32)} {a0 : Nat} {a1 : Int32} {a2 : Int32} {h : mH} {r : Int32} {h' : mH} (hf : f_Reader_takeNumber a0 a1 a2 h = some (r, h')) : MM sc y_Reader_takeNumber prog_4_method_13_code 3 (some .boolean) 2 44 [.ref a0, .int a1, .int a2] h (some (.int r)) h' :=
  mm_of_G si_pn_Reader (Nat.le_of_ble_eq_true rfl) (t_Reader_takeNumber_0 _ _ _ _ _ _ hf)
/-! Reader putInto ([II)Z -/
set_option maxRecDepth 100000 in
theorem dd_Reader_putInto_0 : (decode prog_4_method_12_code 0 = .ok (.aload_n 1, 1)) ∧ (decode prog_4_method_12_code 1 = .ok (.iload_n 2, 1)) ∧ (decode prog_4_method_12_code 2 = .ok (.aload_n 0, 1)) ∧ (decode prog_4_method_12_code 3 = .ok (.getfield 123, 3)) ∧ (decode prog_4_method_12_code 6 = .ok (.iastore, 1)) ∧ (decode prog_4_method_12_code 7 = .ok (.iconst 1, 1)) ∧ (decode prog_4_method_12_code 8 = .ok (.ireturn, 1)) := by
  have h : List.drop 0 prog_4_method_12_code.data.toList = 0x2b :: _ := rfl
  refine ⟨zq_k_n 43 h rfl (zq_o_43 _), ?_⟩
  replace h := zq_nx1 (q := 1) h rfl
  refine ⟨zq_k_n 28 h rfl (zq_o_28 _), ?_⟩
  replace h := zq_nx1 (q := 2) h rfl
  refine ⟨zq_k_n 42 h rfl (zq_o_42 _), ?_⟩
  replace h := zq_nx1 (q := 3) h rfl
  refine ⟨zq_k_u2 180 (fun z => .getfield z) 123 h rfl (zq_o_180 _) (by decide +kernel), ?_⟩
  replace h := zq_nx3 (q := 6) h rfl
  refine ⟨zq_k_n 79 h rfl (zq_o_79 _), ?_⟩
  replace h := zq_nx1 (q := 7) h rfl
  refine ⟨zq_k_n 4 h rfl (zq_o_4 _), ?_⟩
  replace h := zq_nx1 (q := 8) h rfl
  exact zq_k_n 172 h rfl (zq_o_172 _)
def f_Reader_putInto_0  (a0 : Nat) (a1 : Nat) (a2 : Int32) (h : mH) : Option (Int32 × mH) :=
  bd1 (gI h a0 3 8) fun x1 =>
  bd1 (sI h 0 a1 a2 x1) fun h3 =>
  some ((1 : Int32), h3)
set_option maxRecDepth 20000 in
theorem t_Reader_putInto_0 {sc : Nat × (Nat → Int32)}  (a0 : Nat) (a1 : Nat) (a2 : Int32) (h : mH) (r : Int32) (h' : mH) (hf : f_Reader_putInto_0  a0 a1 a2 h = some (r, h')) : G sc y_Reader_putInto prog_4_method_12_code 3 (some .boolean) 0 0 0 [(0, .ref a0), (1, .ref a1), (2, .int a2)] [] h (some (.int r)) h' := by
  unfold f_Reader_putInto_0 at hf
  refine g_aload_n (pc := 0) 1 dd_Reader_putInto_0.1 rfl rfl ?_
  refine g_iload_n (pc := 1) 2 dd_Reader_putInto_0.2.1 rfl rfl ?_
  refine g_aload_n (pc := 2) 0 dd_Reader_putInto_0.2.2.1 rfl rfl ?_
  obtain ⟨x1, e2, hf⟩ := bd1_e hf
  refine g_get (pc := 3) (ci := 3) (kk := 8) dd_Reader_putInto_0.2.2.2.1 rfl in_Reader (by decide) wd_44 (gI_spec e2) ?_
  obtain ⟨h3, e4, hf⟩ := bd1_e hf
  refine g_iast (pc := 6) dd_Reader_putInto_0.2.2.2.2.1 e4 ?_
  refine g_iconst (pc := 7) (1 : Int32) dd_Reader_putInto_0.2.2.2.2.2.1 (by decide) ?_
  obtain ⟨rfl, rfl⟩ := ret2 hf
  exact g_zret (pc := 8) rfl rfl dd_Reader_putInto_0.2.2.2.2.2.2
def f_Reader_putInto (a0 : Nat) (a1 : Nat) (a2 : Int32) (h : mH) : Option (Int32 × mH) := f_Reader_putInto_0 a0 a1 a2 h
theorem c_Reader_putInto {sc : Nat × (Nat → Int32)} {a0 : Nat} {a1 : Nat} {a2 : Int32} {h : mH} {r : Int32} {h' : mH} (hf : f_Reader_putInto a0 a1 a2 h = some (r, h')) : MM sc y_Reader_putInto prog_4_method_12_code 3 (some .boolean) 0 0 [.ref a0, .ref a1, .int a2] h (some (.int r)) h' :=
  mm_of_G si_pn_Reader (Nat.le_of_ble_eq_true rfl) (t_Reader_putInto_0 _ _ _ _ _ _ hf)
/-! Reader takeCarried (LQuotaLaws$Realm;I)Z -/
set_option maxRecDepth 100000 in
theorem dd_Reader_takeCarried_0 : (decode prog_4_method_6_code 0 = .ok (.aload_n 0, 1)) ∧ (decode prog_4_method_6_code 1 = .ok (.iconst 0, 1)) ∧ (decode prog_4_method_6_code 2 = .ok (.iconst 4, 1)) ∧ (decode prog_4_method_6_code 3 = .ok (.invokevirtual 120, 3)) ∧ (decode prog_4_method_6_code 6 = .ok (.ifCond .ne 5, 3)) ∧ (decode prog_4_method_6_code 9 = .ok (.iconst 0, 1)) ∧ (decode prog_4_method_6_code 10 = .ok (.ireturn, 1)) ∧ (decode prog_4_method_6_code 11 = .ok (.aload_n 1, 1)) ∧ (decode prog_4_method_6_code 12 = .ok (.getfield 88, 3)) ∧ (decode prog_4_method_6_code 15 = .ok (.iload_n 2, 1)) ∧ (decode prog_4_method_6_code 16 = .ok (.aload_n 0, 1)) ∧ (decode prog_4_method_6_code 17 = .ok (.getfield 123, 3)) ∧ (decode prog_4_method_6_code 20 = .ok (.iastore, 1)) ∧ (decode prog_4_method_6_code 21 = .ok (.aload_n 0, 1)) ∧ (decode prog_4_method_6_code 22 = .ok (.getfield 123, 3)) ∧ (decode prog_4_method_6_code 25 = .ok (.iload_n 2, 1)) ∧ (decode prog_4_method_6_code 26 = .ok (.if_icmp .ne 15, 3)) ∧ (decode prog_4_method_6_code 29 = .ok (.aload_n 0, 1)) ∧ (decode prog_4_method_6_code 30 = .ok (.iconst 4, 1)) ∧ (decode prog_4_method_6_code 31 = .ok (.aload_n 0, 1)) ∧ (decode prog_4_method_6_code 32 = .ok (.getfield 85, 3)) ∧ (decode prog_4_method_6_code 35 = .ok (.invokevirtual 50, 3)) ∧ (decode prog_4_method_6_code 38 = .ok (.ifCond .eq 7, 3)) ∧ (decode prog_4_method_6_code 41 = .ok (.iconst 1, 1)) := by
  have h : List.drop 0 prog_4_method_6_code.data.toList = 0x2a :: _ := rfl
  refine ⟨zq_k_n 42 h rfl (zq_o_42 _), ?_⟩
  replace h := zq_nx1 (q := 1) h rfl
  refine ⟨zq_k_n 3 h rfl (zq_o_3 _), ?_⟩
  replace h := zq_nx1 (q := 2) h rfl
  refine ⟨zq_k_n 7 h rfl (zq_o_7 _), ?_⟩
  replace h := zq_nx1 (q := 3) h rfl
  refine ⟨zq_k_u2 182 (fun z => .invokevirtual z) 120 h rfl (zq_o_182 _) (by decide +kernel), ?_⟩
  replace h := zq_nx3 (q := 6) h rfl
  refine ⟨zq_k_s2 154 (fun z => .ifCond .ne z) 5 h rfl (zq_o_154 _) (by decide +kernel), ?_⟩
  replace h := zq_nx3 (q := 9) h rfl
  refine ⟨zq_k_n 3 h rfl (zq_o_3 _), ?_⟩
  replace h := zq_nx1 (q := 10) h rfl
  refine ⟨zq_k_n 172 h rfl (zq_o_172 _), ?_⟩
  replace h := zq_nx1 (q := 11) h rfl
  refine ⟨zq_k_n 43 h rfl (zq_o_43 _), ?_⟩
  replace h := zq_nx1 (q := 12) h rfl
  refine ⟨zq_k_u2 180 (fun z => .getfield z) 88 h rfl (zq_o_180 _) (by decide +kernel), ?_⟩
  replace h := zq_nx3 (q := 15) h rfl
  refine ⟨zq_k_n 28 h rfl (zq_o_28 _), ?_⟩
  replace h := zq_nx1 (q := 16) h rfl
  refine ⟨zq_k_n 42 h rfl (zq_o_42 _), ?_⟩
  replace h := zq_nx1 (q := 17) h rfl
  refine ⟨zq_k_u2 180 (fun z => .getfield z) 123 h rfl (zq_o_180 _) (by decide +kernel), ?_⟩
  replace h := zq_nx3 (q := 20) h rfl
  refine ⟨zq_k_n 79 h rfl (zq_o_79 _), ?_⟩
  replace h := zq_nx1 (q := 21) h rfl
  refine ⟨zq_k_n 42 h rfl (zq_o_42 _), ?_⟩
  replace h := zq_nx1 (q := 22) h rfl
  refine ⟨zq_k_u2 180 (fun z => .getfield z) 123 h rfl (zq_o_180 _) (by decide +kernel), ?_⟩
  replace h := zq_nx3 (q := 25) h rfl
  refine ⟨zq_k_n 28 h rfl (zq_o_28 _), ?_⟩
  replace h := zq_nx1 (q := 26) h rfl
  refine ⟨zq_k_s2 160 (fun z => .if_icmp .ne z) 15 h rfl (zq_o_160 _) (by decide +kernel), ?_⟩
  replace h := zq_nx3 (q := 29) h rfl
  refine ⟨zq_k_n 42 h rfl (zq_o_42 _), ?_⟩
  replace h := zq_nx1 (q := 30) h rfl
  refine ⟨zq_k_n 7 h rfl (zq_o_7 _), ?_⟩
  replace h := zq_nx1 (q := 31) h rfl
  refine ⟨zq_k_n 42 h rfl (zq_o_42 _), ?_⟩
  replace h := zq_nx1 (q := 32) h rfl
  refine ⟨zq_k_u2 180 (fun z => .getfield z) 85 h rfl (zq_o_180 _) (by decide +kernel), ?_⟩
  replace h := zq_nx3 (q := 35) h rfl
  refine ⟨zq_k_u2 182 (fun z => .invokevirtual z) 50 h rfl (zq_o_182 _) (by decide +kernel), ?_⟩
  replace h := zq_nx3 (q := 38) h rfl
  refine ⟨zq_k_s2 153 (fun z => .ifCond .eq z) 7 h rfl (zq_o_153 _) (by decide +kernel), ?_⟩
  replace h := zq_nx3 (q := 41) h rfl
  exact zq_k_n 4 h rfl (zq_o_4 _)
set_option maxRecDepth 100000 in
theorem dd_Reader_takeCarried_42 : (decode prog_4_method_6_code 42 = .ok (.goto 4, 3)) ∧ (decode prog_4_method_6_code 45 = .ok (.iconst 0, 1)) ∧ (decode prog_4_method_6_code 46 = .ok (.ireturn, 1)) := by
  have h : List.drop 42 prog_4_method_6_code.data.toList = 0xa7 :: _ := rfl
  refine ⟨zq_k_s2 167 (fun z => .goto z) 4 h rfl (zq_o_167 _) (by decide +kernel), ?_⟩
  replace h := zq_nx3 (q := 45) h rfl
  refine ⟨zq_k_n 3 h rfl (zq_o_3 _), ?_⟩
  replace h := zq_nx1 (q := 46) h rfl
  exact zq_k_n 172 h rfl (zq_o_172 _)
def f_Reader_takeCarried_41   (h : mH) : Option (Int32 × mH) :=
  some ((1 : Int32), h)
set_option maxRecDepth 20000 in
theorem t_Reader_takeCarried_41 {sc : Nat × (Nat → Int32)}   (h : mH) (r : Int32) (h' : mH) (hf : f_Reader_takeCarried_41   h = some (r, h')) : G sc y_Reader_takeCarried prog_4_method_6_code 3 (some .boolean) 2 44 41 [] [] h (some (.int r)) h' := by
  unfold f_Reader_takeCarried_41 at hf
  refine g_iconst (pc := 41) (1 : Int32) dd_Reader_takeCarried_0.2.2.2.2.2.2.2.2.2.2.2.2.2.2.2.2.2.2.2.2.2.2.2 (by decide) ?_
  refine g_goto (pc := 42) 46 dd_Reader_takeCarried_42.1 (by decide) ?_
  obtain ⟨rfl, rfl⟩ := ret2 hf
  exact g_zret (pc := 46) rfl rfl dd_Reader_takeCarried_42.2.2
def f_Reader_takeCarried_0  (a0 : Nat) (a1 : Nat) (a2 : Int32) (h : mH) : Option (Int32 × mH) :=
  bd1 (kC h a0 3) fun _ =>
  bd2 (f_Reader_isBounded a0 (0 : Int32) (4 : Int32) h) fun x5 h3 =>
  if x5 = 0 then
    some ((0 : Int32), h3)
  else
    bd1 (gR h3 a1 4 10) fun x6 =>
    bd1 (gI h3 a0 3 8) fun x8 =>
    bd1 (sI h3 0 x6 a2 x8) fun h10 =>
    bd1 (gI h10 a0 3 8) fun x12 =>
    if x12 = a2 then
      bd1 (gI h10 a0 3 7) fun x14 =>
      bd1 (kC h10 a0 3) fun _ =>
      bd2 (f_Reader_fail a0 (4 : Int32) x14 h10) fun x20 h18 =>
      if x20 = 0 then
        some ((0 : Int32), h18)
      else
        f_Reader_takeCarried_41  h18
    else
      f_Reader_takeCarried_41  h10
set_option maxRecDepth 20000 in
theorem t_Reader_takeCarried_0 {sc : Nat × (Nat → Int32)}  (a0 : Nat) (a1 : Nat) (a2 : Int32) (h : mH) (r : Int32) (h' : mH) (hf : f_Reader_takeCarried_0  a0 a1 a2 h = some (r, h')) : G sc y_Reader_takeCarried prog_4_method_6_code 3 (some .boolean) 2 44 0 [(0, .ref a0), (1, .ref a1), (2, .int a2)] [] h (some (.int r)) h' := by
  unfold f_Reader_takeCarried_0 at hf
  refine g_aload_n (pc := 0) 0 dd_Reader_takeCarried_0.1 rfl rfl ?_
  refine g_iconst (pc := 1) (0 : Int32) dd_Reader_takeCarried_0.2.1 (by decide) ?_
  refine g_iconst (pc := 2) (4 : Int32) dd_Reader_takeCarried_0.2.2.1 (by decide) ?_
  obtain ⟨u2, e1, hf⟩ := bd1_e hf
  obtain ⟨x5, h3, e4, hf⟩ := bd2_e hf
  refine g_callV (pc := 3) (ci := 3) [.int (0 : Int32), .int (4 : Int32)] (site_of si_Reader_isBounded (by decide) (by decide)) wd_442 wd_444 wp_9 dd_Reader_takeCarried_0.2.2.2.1 rfl e1 (Nat.le_of_ble_eq_true rfl) (fun z => absurd z si_na_Reader_isBounded) (fun z => absurd z si_na_Reader_isBounded) (fun z => absurd z si_na_Reader_isBounded) (c_Reader_isBounded e4) rfl ?_
  refine g_st [.int x5] rfl ?_
  refine g_ifne (pc := 6) 11 dd_Reader_takeCarried_0.2.2.2.2.1 (by decide) (fun c23 => ?_) (fun c23 => ?_)
  · replace hf := (if_neg c23).symm.trans hf
    refine g_aload_n (pc := 11) 1 dd_Reader_takeCarried_0.2.2.2.2.2.2.2.1 rfl rfl ?_
    obtain ⟨x6, e7, hf⟩ := bd1_e hf
    refine g_get (pc := 12) (ci := 4) (kk := 10) dd_Reader_takeCarried_0.2.2.2.2.2.2.2.2.1 rfl in_Realm (by decide) wd_128 (gR_spec e7) ?_
    refine g_iload_n (pc := 15) 2 dd_Reader_takeCarried_0.2.2.2.2.2.2.2.2.2.1 rfl rfl ?_
    refine g_aload_n (pc := 16) 0 dd_Reader_takeCarried_0.2.2.2.2.2.2.2.2.2.2.1 rfl rfl ?_
    obtain ⟨x8, e9, hf⟩ := bd1_e hf
    refine g_get (pc := 17) (ci := 3) (kk := 8) dd_Reader_takeCarried_0.2.2.2.2.2.2.2.2.2.2.2.1 rfl in_Reader (by decide) wd_44 (gI_spec e9) ?_
    obtain ⟨h10, e11, hf⟩ := bd1_e hf
    refine g_iast (pc := 20) dd_Reader_takeCarried_0.2.2.2.2.2.2.2.2.2.2.2.2.1 e11 ?_
    refine g_aload_n (pc := 21) 0 dd_Reader_takeCarried_0.2.2.2.2.2.2.2.2.2.2.2.2.2.1 rfl rfl ?_
    obtain ⟨x12, e13, hf⟩ := bd1_e hf
    refine g_get (pc := 22) (ci := 3) (kk := 8) dd_Reader_takeCarried_0.2.2.2.2.2.2.2.2.2.2.2.2.2.2.1 rfl in_Reader (by decide) wd_44 (gI_spec e13) ?_
    refine g_iload_n (pc := 25) 2 dd_Reader_takeCarried_0.2.2.2.2.2.2.2.2.2.2.2.2.2.2.2.1 rfl rfl ?_
    refine g_icmpne (pc := 26) 41 dd_Reader_takeCarried_0.2.2.2.2.2.2.2.2.2.2.2.2.2.2.2.2.1 (by decide) (fun c22 => ?_) (fun c22 => ?_)
    · replace hf := (if_neg c22).symm.trans hf
      refine g_lv [] rfl ?_
      exact t_Reader_takeCarried_41  _ _ _  hf
    · replace hf := (if_pos c22).symm.trans hf
      refine g_aload_n (pc := 29) 0 dd_Reader_takeCarried_0.2.2.2.2.2.2.2.2.2.2.2.2.2.2.2.2.2.1 rfl rfl ?_
      refine g_iconst (pc := 30) (4 : Int32) dd_Reader_takeCarried_0.2.2.2.2.2.2.2.2.2.2.2.2.2.2.2.2.2.2.1 (by decide) ?_
      refine g_aload_n (pc := 31) 0 dd_Reader_takeCarried_0.2.2.2.2.2.2.2.2.2.2.2.2.2.2.2.2.2.2.2.1 rfl rfl ?_
      obtain ⟨x14, e15, hf⟩ := bd1_e hf
      refine g_get (pc := 32) (ci := 3) (kk := 7) dd_Reader_takeCarried_0.2.2.2.2.2.2.2.2.2.2.2.2.2.2.2.2.2.2.2.2.1 rfl in_Reader (by decide) wd_43 (gI_spec e15) ?_
      obtain ⟨u17, e16, hf⟩ := bd1_e hf
      obtain ⟨x20, h18, e19, hf⟩ := bd2_e hf
      refine g_callV (pc := 35) (ci := 3) [.int (4 : Int32), .int x14] (site_of si_Reader_fail (by decide) (by decide)) wd_373 wd_375 wp_4 dd_Reader_takeCarried_0.2.2.2.2.2.2.2.2.2.2.2.2.2.2.2.2.2.2.2.2.2.1 rfl e16 (Nat.le_of_ble_eq_true rfl) (fun z => absurd z si_na_Reader_fail) (fun z => absurd z si_na_Reader_fail) (fun z => absurd z si_na_Reader_fail) (c_Reader_fail e19) rfl ?_
      refine g_st [.int x20] rfl ?_
      refine g_ifeq (pc := 38) 45 dd_Reader_takeCarried_0.2.2.2.2.2.2.2.2.2.2.2.2.2.2.2.2.2.2.2.2.2.2.1 (by decide) (fun c21 => ?_) (fun c21 => ?_)
      · replace hf := (if_pos c21).symm.trans hf
        refine g_iconst (pc := 45) (0 : Int32) dd_Reader_takeCarried_42.2.1 (by decide) ?_
        obtain ⟨rfl, rfl⟩ := ret2 hf
        exact g_zret (pc := 46) rfl rfl dd_Reader_takeCarried_42.2.2
      · replace hf := (if_neg c21).symm.trans hf
        refine g_lv [] rfl ?_
        exact t_Reader_takeCarried_41  _ _ _  hf
  · replace hf := (if_pos c23).symm.trans hf
    refine g_iconst (pc := 9) (0 : Int32) dd_Reader_takeCarried_0.2.2.2.2.2.1 (by decide) ?_
    obtain ⟨rfl, rfl⟩ := ret2 hf
    exact g_zret (pc := 10) rfl rfl dd_Reader_takeCarried_0.2.2.2.2.2.2.1
def f_Reader_takeCarried (a0 : Nat) (a1 : Nat) (a2 : Int32) (h : mH) : Option (Int32 × mH) := f_Reader_takeCarried_0 a0 a1 a2 h
theorem c_Reader_takeCarried {sc : Nat × (Nat → Int32)} {a0 : Nat} {a1 : Nat} {a2 : Int32} {h : mH} {r : Int32} {h' : mH} (hf : f_Reader_takeCarried a0 a1 a2 h = some (r, h')) : MM sc y_Reader_takeCarried prog_4_method_6_code 3 (some .boolean) 2 44 [.ref a0, .ref a1, .int a2] h (some (.int r)) h' :=
  mm_of_G si_pn_Reader (Nat.le_of_ble_eq_true rfl) (t_Reader_takeCarried_0 _ _ _ _ _ _ hf)
/-! Reader isStop ()Z -/
set_option maxRecDepth 100000 in
theorem dd_Reader_isStop_0 : (decode prog_4_method_15_code 0 = .ok (.aload_n 0, 1)) ∧ (decode prog_4_method_15_code 1 = .ok (.getfield 40, 3)) ∧ (decode prog_4_method_15_code 4 = .ok (.iconst 3, 1)) ∧ (decode prog_4_method_15_code 5 = .ok (.if_icmp .eq 15, 3)) ∧ (decode prog_4_method_15_code 8 = .ok (.aload_n 0, 1)) ∧ (decode prog_4_method_15_code 9 = .ok (.iconst 2, 1)) ∧ (decode prog_4_method_15_code 10 = .ok (.aload_n 0, 1)) ∧ (decode prog_4_method_15_code 11 = .ok (.getfield 85, 3)) ∧ (decode prog_4_method_15_code 14 = .ok (.invokevirtual 50, 3)) ∧ (decode prog_4_method_15_code 17 = .ok (.ifCond .eq 7, 3)) ∧ (decode prog_4_method_15_code 20 = .ok (.iconst 1, 1)) ∧ (decode prog_4_method_15_code 21 = .ok (.goto 4, 3)) ∧ (decode prog_4_method_15_code 24 = .ok (.iconst 0, 1)) ∧ (decode prog_4_method_15_code 25 = .ok (.ireturn, 1)) := by
  have h : List.drop 0 prog_4_method_15_code.data.toList = 0x2a :: _ := rfl
  refine ⟨zq_k_n 42 h rfl (zq_o_42 _), ?_⟩
  replace h := zq_nx1 (q := 1) h rfl
  refine ⟨zq_k_u2 180 (fun z => .getfield z) 40 h rfl (zq_o_180 _) (by decide +kernel), ?_⟩
  replace h := zq_nx3 (q := 4) h rfl
  refine ⟨zq_k_n 6 h rfl (zq_o_6 _), ?_⟩
  replace h := zq_nx1 (q := 5) h rfl
  refine ⟨zq_k_s2 159 (fun z => .if_icmp .eq z) 15 h rfl (zq_o_159 _) (by decide +kernel), ?_⟩
  replace h := zq_nx3 (q := 8) h rfl
  refine ⟨zq_k_n 42 h rfl (zq_o_42 _), ?_⟩
  replace h := zq_nx1 (q := 9) h rfl
  refine ⟨zq_k_n 5 h rfl (zq_o_5 _), ?_⟩
  replace h := zq_nx1 (q := 10) h rfl
  refine ⟨zq_k_n 42 h rfl (zq_o_42 _), ?_⟩
  replace h := zq_nx1 (q := 11) h rfl
  refine ⟨zq_k_u2 180 (fun z => .getfield z) 85 h rfl (zq_o_180 _) (by decide +kernel), ?_⟩
  replace h := zq_nx3 (q := 14) h rfl
  refine ⟨zq_k_u2 182 (fun z => .invokevirtual z) 50 h rfl (zq_o_182 _) (by decide +kernel), ?_⟩
  replace h := zq_nx3 (q := 17) h rfl
  refine ⟨zq_k_s2 153 (fun z => .ifCond .eq z) 7 h rfl (zq_o_153 _) (by decide +kernel), ?_⟩
  replace h := zq_nx3 (q := 20) h rfl
  refine ⟨zq_k_n 4 h rfl (zq_o_4 _), ?_⟩
  replace h := zq_nx1 (q := 21) h rfl
  refine ⟨zq_k_s2 167 (fun z => .goto z) 4 h rfl (zq_o_167 _) (by decide +kernel), ?_⟩
  replace h := zq_nx3 (q := 24) h rfl
  refine ⟨zq_k_n 3 h rfl (zq_o_3 _), ?_⟩
  replace h := zq_nx1 (q := 25) h rfl
  exact zq_k_n 172 h rfl (zq_o_172 _)
def f_Reader_isStop_20   (h : mH) : Option (Int32 × mH) :=
  some ((1 : Int32), h)
set_option maxRecDepth 20000 in
theorem t_Reader_isStop_20 {sc : Nat × (Nat → Int32)}   (h : mH) (r : Int32) (h' : mH) (hf : f_Reader_isStop_20   h = some (r, h')) : G sc y_Reader_isStop prog_4_method_15_code 1 (some .boolean) 1 22 20 [] [] h (some (.int r)) h' := by
  unfold f_Reader_isStop_20 at hf
  refine g_iconst (pc := 20) (1 : Int32) dd_Reader_isStop_0.2.2.2.2.2.2.2.2.2.2.1 (by decide) ?_
  refine g_goto (pc := 21) 25 dd_Reader_isStop_0.2.2.2.2.2.2.2.2.2.2.2.1 (by decide) ?_
  obtain ⟨rfl, rfl⟩ := ret2 hf
  exact g_zret (pc := 25) rfl rfl dd_Reader_isStop_0.2.2.2.2.2.2.2.2.2.2.2.2.2
def f_Reader_isStop_0  (a0 : Nat) (h : mH) : Option (Int32 × mH) :=
  bd1 (gI h a0 3 6) fun x1 =>
  if x1 = (3 : Int32) then
    f_Reader_isStop_20  h
  else
    bd1 (gI h a0 3 7) fun x3 =>
    bd1 (kC h a0 3) fun _ =>
    bd2 (f_Reader_fail a0 (2 : Int32) x3 h) fun x9 h7 =>
    if x9 = 0 then
      some ((0 : Int32), h7)
    else
      f_Reader_isStop_20  h7
set_option maxRecDepth 20000 in
theorem t_Reader_isStop_0 {sc : Nat × (Nat → Int32)}  (a0 : Nat) (h : mH) (r : Int32) (h' : mH) (hf : f_Reader_isStop_0  a0 h = some (r, h')) : G sc y_Reader_isStop prog_4_method_15_code 1 (some .boolean) 1 22 0 [(0, .ref a0)] [] h (some (.int r)) h' := by
  unfold f_Reader_isStop_0 at hf
  refine g_aload_n (pc := 0) 0 dd_Reader_isStop_0.1 rfl rfl ?_
  obtain ⟨x1, e2, hf⟩ := bd1_e hf
  refine g_get (pc := 1) (ci := 3) (kk := 6) dd_Reader_isStop_0.2.1 rfl in_Reader (by decide) wd_42 (gI_spec e2) ?_
  refine g_iconst (pc := 4) (3 : Int32) dd_Reader_isStop_0.2.2.1 (by decide) ?_
  refine g_icmpeq (pc := 5) 20 dd_Reader_isStop_0.2.2.2.1 (by decide) (fun c11 => ?_) (fun c11 => ?_)
  · replace hf := (if_pos c11).symm.trans hf
    refine g_lv [] rfl ?_
    exact t_Reader_isStop_20  _ _ _  hf
  · replace hf := (if_neg c11).symm.trans hf
    refine g_aload_n (pc := 8) 0 dd_Reader_isStop_0.2.2.2.2.1 rfl rfl ?_
    refine g_iconst (pc := 9) (2 : Int32) dd_Reader_isStop_0.2.2.2.2.2.1 (by decide) ?_
    refine g_aload_n (pc := 10) 0 dd_Reader_isStop_0.2.2.2.2.2.2.1 rfl rfl ?_
    obtain ⟨x3, e4, hf⟩ := bd1_e hf
    refine g_get (pc := 11) (ci := 3) (kk := 7) dd_Reader_isStop_0.2.2.2.2.2.2.2.1 rfl in_Reader (by decide) wd_43 (gI_spec e4) ?_
    obtain ⟨u6, e5, hf⟩ := bd1_e hf
    obtain ⟨x9, h7, e8, hf⟩ := bd2_e hf
    refine g_callV (pc := 14) (ci := 3) [.int (2 : Int32), .int x3] (site_of si_Reader_fail (by decide) (by decide)) wd_373 wd_375 wp_4 dd_Reader_isStop_0.2.2.2.2.2.2.2.2.1 rfl e5 (Nat.le_of_ble_eq_true rfl) (fun z => absurd z si_na_Reader_fail) (fun z => absurd z si_na_Reader_fail) (fun z => absurd z si_na_Reader_fail) (c_Reader_fail e8) rfl ?_
    refine g_st [.int x9] rfl ?_
    refine g_ifeq (pc := 17) 24 dd_Reader_isStop_0.2.2.2.2.2.2.2.2.2.1 (by decide) (fun c10 => ?_) (fun c10 => ?_)
    · replace hf := (if_pos c10).symm.trans hf
      refine g_iconst (pc := 24) (0 : Int32) dd_Reader_isStop_0.2.2.2.2.2.2.2.2.2.2.2.2.1 (by decide) ?_
      obtain ⟨rfl, rfl⟩ := ret2 hf
      exact g_zret (pc := 25) rfl rfl dd_Reader_isStop_0.2.2.2.2.2.2.2.2.2.2.2.2.2
    · replace hf := (if_neg c10).symm.trans hf
      refine g_lv [] rfl ?_
      exact t_Reader_isStop_20  _ _ _  hf
def f_Reader_isStop (a0 : Nat) (h : mH) : Option (Int32 × mH) := f_Reader_isStop_0 a0 h
theorem c_Reader_isStop {sc : Nat × (Nat → Int32)} {a0 : Nat} {h : mH} {r : Int32} {h' : mH} (hf : f_Reader_isStop a0 h = some (r, h')) : MM sc y_Reader_isStop prog_4_method_15_code 1 (some .boolean) 1 22 [.ref a0] h (some (.int r)) h' :=
  mm_of_G si_pn_Reader (Nat.le_of_ble_eq_true rfl) (t_Reader_isStop_0 _ _ _ _ hf)
/-! Reader takeLaw (LQuotaLaws$Realm;I)Z -/
set_option maxRecDepth 100000 in
theorem dd_Reader_takeLaw_0 : (decode prog_4_method_5_code 0 = .ok (.iload_n 2, 1)) ∧ (decode prog_4_method_5_code 1 = .ok (.iconst 5, 1)) ∧ (decode prog_4_method_5_code 2 = .ok (.if_icmp .lt 13, 3)) ∧ (decode prog_4_method_5_code 5 = .ok (.aload_n 0, 1)) ∧ (decode prog_4_method_5_code 6 = .ok (.iconst 5, 1)) ∧ (decode prog_4_method_5_code 7 = .ok (.aload_n 0, 1)) ∧ (decode prog_4_method_5_code 8 = .ok (.getfield 85, 3)) ∧ (decode prog_4_method_5_code 11 = .ok (.invokevirtual 50, 3)) ∧ (decode prog_4_method_5_code 14 = .ok (.ireturn, 1)) ∧ (decode prog_4_method_5_code 15 = .ok (.aload_n 1, 1)) ∧ (decode prog_4_method_5_code 16 = .ok (.getfield 88, 3)) ∧ (decode prog_4_method_5_code 19 = .ok (.iload_n 2, 1)) ∧ (decode prog_4_method_5_code 20 = .ok (.bipush (-4), 2)) ∧ (decode prog_4_method_5_code 22 = .ok (.iastore, 1)) ∧ (decode prog_4_method_5_code 23 = .ok (.aload_n 1, 1)) ∧ (decode prog_4_method_5_code 24 = .ok (.dup, 1)) ∧ (decode prog_4_method_5_code 25 = .ok (.getfield 92, 3)) ∧ (decode prog_4_method_5_code 28 = .ok (.iconst 1, 1)) ∧ (decode prog_4_method_5_code 29 = .ok (.iload_n 2, 1)) ∧ (decode prog_4_method_5_code 30 = .ok (.ishl, 1)) ∧ (decode prog_4_method_5_code 31 = .ok (.ior, 1)) ∧ (decode prog_4_method_5_code 32 = .ok (.putfield 92, 3)) ∧ (decode prog_4_method_5_code 35 = .ok (.aload_n 1, 1)) ∧ (decode prog_4_method_5_code 36 = .ok (.dup, 1)) := by
  have h : List.drop 0 prog_4_method_5_code.data.toList = 0x1c :: _ := rfl
  refine ⟨zq_k_n 28 h rfl (zq_o_28 _), ?_⟩
  replace h := zq_nx1 (q := 1) h rfl
  refine ⟨zq_k_n 8 h rfl (zq_o_8 _), ?_⟩
  replace h := zq_nx1 (q := 2) h rfl
  refine ⟨zq_k_s2 161 (fun z => .if_icmp .lt z) 13 h rfl (zq_o_161 _) (by decide +kernel), ?_⟩
  replace h := zq_nx3 (q := 5) h rfl
  refine ⟨zq_k_n 42 h rfl (zq_o_42 _), ?_⟩
  replace h := zq_nx1 (q := 6) h rfl
  refine ⟨zq_k_n 8 h rfl (zq_o_8 _), ?_⟩
  replace h := zq_nx1 (q := 7) h rfl
  refine ⟨zq_k_n 42 h rfl (zq_o_42 _), ?_⟩
  replace h := zq_nx1 (q := 8) h rfl
  refine ⟨zq_k_u2 180 (fun z => .getfield z) 85 h rfl (zq_o_180 _) (by decide +kernel), ?_⟩
  replace h := zq_nx3 (q := 11) h rfl
  refine ⟨zq_k_u2 182 (fun z => .invokevirtual z) 50 h rfl (zq_o_182 _) (by decide +kernel), ?_⟩
  replace h := zq_nx3 (q := 14) h rfl
  refine ⟨zq_k_n 172 h rfl (zq_o_172 _), ?_⟩
  replace h := zq_nx1 (q := 15) h rfl
  refine ⟨zq_k_n 43 h rfl (zq_o_43 _), ?_⟩
  replace h := zq_nx1 (q := 16) h rfl
  refine ⟨zq_k_u2 180 (fun z => .getfield z) 88 h rfl (zq_o_180 _) (by decide +kernel), ?_⟩
  replace h := zq_nx3 (q := 19) h rfl
  refine ⟨zq_k_n 28 h rfl (zq_o_28 _), ?_⟩
  replace h := zq_nx1 (q := 20) h rfl
  refine ⟨zq_k_s1 16 (fun z => .bipush z) (-4) h rfl (zq_o_16 _) (by decide +kernel), ?_⟩
  replace h := zq_nx2 (q := 22) h rfl
  refine ⟨zq_k_n 79 h rfl (zq_o_79 _), ?_⟩
  replace h := zq_nx1 (q := 23) h rfl
  refine ⟨zq_k_n 43 h rfl (zq_o_43 _), ?_⟩
  replace h := zq_nx1 (q := 24) h rfl
  refine ⟨zq_k_n 89 h rfl (zq_o_89 _), ?_⟩
  replace h := zq_nx1 (q := 25) h rfl
  refine ⟨zq_k_u2 180 (fun z => .getfield z) 92 h rfl (zq_o_180 _) (by decide +kernel), ?_⟩
  replace h := zq_nx3 (q := 28) h rfl
  refine ⟨zq_k_n 4 h rfl (zq_o_4 _), ?_⟩
  replace h := zq_nx1 (q := 29) h rfl
  refine ⟨zq_k_n 28 h rfl (zq_o_28 _), ?_⟩
  replace h := zq_nx1 (q := 30) h rfl
  refine ⟨zq_k_n 120 h rfl (zq_o_120 _), ?_⟩
  replace h := zq_nx1 (q := 31) h rfl
  refine ⟨zq_k_n 128 h rfl (zq_o_128 _), ?_⟩
  replace h := zq_nx1 (q := 32) h rfl
  refine ⟨zq_k_u2 181 (fun z => .putfield z) 92 h rfl (zq_o_181 _) (by decide +kernel), ?_⟩
  replace h := zq_nx3 (q := 35) h rfl
  refine ⟨zq_k_n 43 h rfl (zq_o_43 _), ?_⟩
  replace h := zq_nx1 (q := 36) h rfl
  exact zq_k_n 89 h rfl (zq_o_89 _)
set_option maxRecDepth 100000 in
theorem dd_Reader_takeLaw_37 : (decode prog_4_method_5_code 37 = .ok (.getfield 60, 3)) ∧ (decode prog_4_method_5_code 40 = .ok (.iconst 1, 1)) ∧ (decode prog_4_method_5_code 41 = .ok (.iadd, 1)) ∧ (decode prog_4_method_5_code 42 = .ok (.putfield 60, 3)) ∧ (decode prog_4_method_5_code 45 = .ok (.aload_n 0, 1)) ∧ (decode prog_4_method_5_code 46 = .ok (.iconst 0, 1)) ∧ (decode prog_4_method_5_code 47 = .ok (.bipush 9, 2)) ∧ (decode prog_4_method_5_code 49 = .ok (.invokevirtual 95, 3)) ∧ (decode prog_4_method_5_code 52 = .ok (.ifCond .eq 122, 3)) ∧ (decode prog_4_method_5_code 55 = .ok (.aload_n 0, 1)) ∧ (decode prog_4_method_5_code 56 = .ok (.aload_n 1, 1)) ∧ (decode prog_4_method_5_code 57 = .ok (.getfield 98, 3)) ∧ (decode prog_4_method_5_code 60 = .ok (.iload_n 2, 1)) ∧ (decode prog_4_method_5_code 61 = .ok (.invokevirtual 101, 3)) ∧ (decode prog_4_method_5_code 64 = .ok (.ifCond .eq 110, 3)) ∧ (decode prog_4_method_5_code 67 = .ok (.aload_n 0, 1)) ∧ (decode prog_4_method_5_code 68 = .ok (.iconst 1, 1)) ∧ (decode prog_4_method_5_code 69 = .ok (.iconst 3, 1)) ∧ (decode prog_4_method_5_code 70 = .ok (.invokevirtual 95, 3)) ∧ (decode prog_4_method_5_code 73 = .ok (.ifCond .eq 101, 3)) ∧ (decode prog_4_method_5_code 76 = .ok (.aload_n 0, 1)) ∧ (decode prog_4_method_5_code 77 = .ok (.aload_n 1, 1)) ∧ (decode prog_4_method_5_code 78 = .ok (.getfield 105, 3)) ∧ (decode prog_4_method_5_code 81 = .ok (.iload_n 2, 1)) := by
  have h : List.drop 37 prog_4_method_5_code.data.toList = 0xb4 :: _ := rfl
  refine ⟨zq_k_u2 180 (fun z => .getfield z) 60 h rfl (zq_o_180 _) (by decide +kernel), ?_⟩
  replace h := zq_nx3 (q := 40) h rfl
  refine ⟨zq_k_n 4 h rfl (zq_o_4 _), ?_⟩
  replace h := zq_nx1 (q := 41) h rfl
  refine ⟨zq_k_n 96 h rfl (zq_o_96 _), ?_⟩
  replace h := zq_nx1 (q := 42) h rfl
  refine ⟨zq_k_u2 181 (fun z => .putfield z) 60 h rfl (zq_o_181 _) (by decide +kernel), ?_⟩
  replace h := zq_nx3 (q := 45) h rfl
  refine ⟨zq_k_n 42 h rfl (zq_o_42 _), ?_⟩
  replace h := zq_nx1 (q := 46) h rfl
  refine ⟨zq_k_n 3 h rfl (zq_o_3 _), ?_⟩
  replace h := zq_nx1 (q := 47) h rfl
  refine ⟨zq_k_s1 16 (fun z => .bipush z) 9 h rfl (zq_o_16 _) (by decide +kernel), ?_⟩
  replace h := zq_nx2 (q := 49) h rfl
  refine ⟨zq_k_u2 182 (fun z => .invokevirtual z) 95 h rfl (zq_o_182 _) (by decide +kernel), ?_⟩
  replace h := zq_nx3 (q := 52) h rfl
  refine ⟨zq_k_s2 153 (fun z => .ifCond .eq z) 122 h rfl (zq_o_153 _) (by decide +kernel), ?_⟩
  replace h := zq_nx3 (q := 55) h rfl
  refine ⟨zq_k_n 42 h rfl (zq_o_42 _), ?_⟩
  replace h := zq_nx1 (q := 56) h rfl
  refine ⟨zq_k_n 43 h rfl (zq_o_43 _), ?_⟩
  replace h := zq_nx1 (q := 57) h rfl
  refine ⟨zq_k_u2 180 (fun z => .getfield z) 98 h rfl (zq_o_180 _) (by decide +kernel), ?_⟩
  replace h := zq_nx3 (q := 60) h rfl
  refine ⟨zq_k_n 28 h rfl (zq_o_28 _), ?_⟩
  replace h := zq_nx1 (q := 61) h rfl
  refine ⟨zq_k_u2 182 (fun z => .invokevirtual z) 101 h rfl (zq_o_182 _) (by decide +kernel), ?_⟩
  replace h := zq_nx3 (q := 64) h rfl
  refine ⟨zq_k_s2 153 (fun z => .ifCond .eq z) 110 h rfl (zq_o_153 _) (by decide +kernel), ?_⟩
  replace h := zq_nx3 (q := 67) h rfl
  refine ⟨zq_k_n 42 h rfl (zq_o_42 _), ?_⟩
  replace h := zq_nx1 (q := 68) h rfl
  refine ⟨zq_k_n 4 h rfl (zq_o_4 _), ?_⟩
  replace h := zq_nx1 (q := 69) h rfl
  refine ⟨zq_k_n 6 h rfl (zq_o_6 _), ?_⟩
  replace h := zq_nx1 (q := 70) h rfl
  refine ⟨zq_k_u2 182 (fun z => .invokevirtual z) 95 h rfl (zq_o_182 _) (by decide +kernel), ?_⟩
  replace h := zq_nx3 (q := 73) h rfl
  refine ⟨zq_k_s2 153 (fun z => .ifCond .eq z) 101 h rfl (zq_o_153 _) (by decide +kernel), ?_⟩
  replace h := zq_nx3 (q := 76) h rfl
  refine ⟨zq_k_n 42 h rfl (zq_o_42 _), ?_⟩
  replace h := zq_nx1 (q := 77) h rfl
  refine ⟨zq_k_n 43 h rfl (zq_o_43 _), ?_⟩
  replace h := zq_nx1 (q := 78) h rfl
  refine ⟨zq_k_u2 180 (fun z => .getfield z) 105 h rfl (zq_o_180 _) (by decide +kernel), ?_⟩
  replace h := zq_nx3 (q := 81) h rfl
  exact zq_k_n 28 h rfl (zq_o_28 _)
set_option maxRecDepth 100000 in
theorem dd_Reader_takeLaw_82 : (decode prog_4_method_5_code 82 = .ok (.invokevirtual 101, 3)) ∧ (decode prog_4_method_5_code 85 = .ok (.ifCond .eq 89, 3)) ∧ (decode prog_4_method_5_code 88 = .ok (.aload_n 0, 1)) ∧ (decode prog_4_method_5_code 89 = .ok (.iconst 0, 1)) ∧ (decode prog_4_method_5_code 90 = .ok (.bipush 9, 2)) ∧ (decode prog_4_method_5_code 92 = .ok (.invokevirtual 95, 3)) ∧ (decode prog_4_method_5_code 95 = .ok (.ifCond .eq 79, 3)) ∧ (decode prog_4_method_5_code 98 = .ok (.aload_n 0, 1)) ∧ (decode prog_4_method_5_code 99 = .ok (.aload_n 1, 1)) ∧ (decode prog_4_method_5_code 100 = .ok (.getfield 108, 3)) ∧ (decode prog_4_method_5_code 103 = .ok (.iload_n 2, 1)) ∧ (decode prog_4_method_5_code 104 = .ok (.invokevirtual 101, 3)) ∧ (decode prog_4_method_5_code 107 = .ok (.ifCond .eq 67, 3)) ∧ (decode prog_4_method_5_code 110 = .ok (.aload_n 0, 1)) ∧ (decode prog_4_method_5_code 111 = .ok (.iconst 0, 1)) ∧ (decode prog_4_method_5_code 112 = .ok (.bipush 9, 2)) ∧ (decode prog_4_method_5_code 114 = .ok (.invokevirtual 95, 3)) ∧ (decode prog_4_method_5_code 117 = .ok (.ifCond .eq 57, 3)) ∧ (decode prog_4_method_5_code 120 = .ok (.aload_n 0, 1)) ∧ (decode prog_4_method_5_code 121 = .ok (.aload_n 1, 1)) ∧ (decode prog_4_method_5_code 122 = .ok (.getfield 111, 3)) ∧ (decode prog_4_method_5_code 125 = .ok (.iload_n 2, 1)) ∧ (decode prog_4_method_5_code 126 = .ok (.invokevirtual 101, 3)) ∧ (decode prog_4_method_5_code 129 = .ok (.ifCond .eq 45, 3)) := by
  have h : List.drop 82 prog_4_method_5_code.data.toList = 0xb6 :: _ := rfl
  refine ⟨zq_k_u2 182 (fun z => .invokevirtual z) 101 h rfl (zq_o_182 _) (by decide +kernel), ?_⟩
  replace h := zq_nx3 (q := 85) h rfl
  refine ⟨zq_k_s2 153 (fun z => .ifCond .eq z) 89 h rfl (zq_o_153 _) (by decide +kernel), ?_⟩
  replace h := zq_nx3 (q := 88) h rfl
  refine ⟨zq_k_n 42 h rfl (zq_o_42 _), ?_⟩
  replace h := zq_nx1 (q := 89) h rfl
  refine ⟨zq_k_n 3 h rfl (zq_o_3 _), ?_⟩
  replace h := zq_nx1 (q := 90) h rfl
  refine ⟨zq_k_s1 16 (fun z => .bipush z) 9 h rfl (zq_o_16 _) (by decide +kernel), ?_⟩
  replace h := zq_nx2 (q := 92) h rfl
  refine ⟨zq_k_u2 182 (fun z => .invokevirtual z) 95 h rfl (zq_o_182 _) (by decide +kernel), ?_⟩
  replace h := zq_nx3 (q := 95) h rfl
  refine ⟨zq_k_s2 153 (fun z => .ifCond .eq z) 79 h rfl (zq_o_153 _) (by decide +kernel), ?_⟩
  replace h := zq_nx3 (q := 98) h rfl
  refine ⟨zq_k_n 42 h rfl (zq_o_42 _), ?_⟩
  replace h := zq_nx1 (q := 99) h rfl
  refine ⟨zq_k_n 43 h rfl (zq_o_43 _), ?_⟩
  replace h := zq_nx1 (q := 100) h rfl
  refine ⟨zq_k_u2 180 (fun z => .getfield z) 108 h rfl (zq_o_180 _) (by decide +kernel), ?_⟩
  replace h := zq_nx3 (q := 103) h rfl
  refine ⟨zq_k_n 28 h rfl (zq_o_28 _), ?_⟩
  replace h := zq_nx1 (q := 104) h rfl
  refine ⟨zq_k_u2 182 (fun z => .invokevirtual z) 101 h rfl (zq_o_182 _) (by decide +kernel), ?_⟩
  replace h := zq_nx3 (q := 107) h rfl
  refine ⟨zq_k_s2 153 (fun z => .ifCond .eq z) 67 h rfl (zq_o_153 _) (by decide +kernel), ?_⟩
  replace h := zq_nx3 (q := 110) h rfl
  refine ⟨zq_k_n 42 h rfl (zq_o_42 _), ?_⟩
  replace h := zq_nx1 (q := 111) h rfl
  refine ⟨zq_k_n 3 h rfl (zq_o_3 _), ?_⟩
  replace h := zq_nx1 (q := 112) h rfl
  refine ⟨zq_k_s1 16 (fun z => .bipush z) 9 h rfl (zq_o_16 _) (by decide +kernel), ?_⟩
  replace h := zq_nx2 (q := 114) h rfl
  refine ⟨zq_k_u2 182 (fun z => .invokevirtual z) 95 h rfl (zq_o_182 _) (by decide +kernel), ?_⟩
  replace h := zq_nx3 (q := 117) h rfl
  refine ⟨zq_k_s2 153 (fun z => .ifCond .eq z) 57 h rfl (zq_o_153 _) (by decide +kernel), ?_⟩
  replace h := zq_nx3 (q := 120) h rfl
  refine ⟨zq_k_n 42 h rfl (zq_o_42 _), ?_⟩
  replace h := zq_nx1 (q := 121) h rfl
  refine ⟨zq_k_n 43 h rfl (zq_o_43 _), ?_⟩
  replace h := zq_nx1 (q := 122) h rfl
  refine ⟨zq_k_u2 180 (fun z => .getfield z) 111 h rfl (zq_o_180 _) (by decide +kernel), ?_⟩
  replace h := zq_nx3 (q := 125) h rfl
  refine ⟨zq_k_n 28 h rfl (zq_o_28 _), ?_⟩
  replace h := zq_nx1 (q := 126) h rfl
  refine ⟨zq_k_u2 182 (fun z => .invokevirtual z) 101 h rfl (zq_o_182 _) (by decide +kernel), ?_⟩
  replace h := zq_nx3 (q := 129) h rfl
  exact zq_k_s2 153 (fun z => .ifCond .eq z) 45 h rfl (zq_o_153 _) (by decide +kernel)
set_option maxRecDepth 100000 in
theorem dd_Reader_takeLaw_132 : (decode prog_4_method_5_code 132 = .ok (.aload_n 0, 1)) ∧ (decode prog_4_method_5_code 133 = .ok (.invokevirtual 36, 3)) ∧ (decode prog_4_method_5_code 136 = .ok (.ifCond .eq 38, 3)) ∧ (decode prog_4_method_5_code 139 = .ok (.aload_n 0, 1)) ∧ (decode prog_4_method_5_code 140 = .ok (.getfield 40, 3)) ∧ (decode prog_4_method_5_code 143 = .ok (.iconst 2, 1)) ∧ (decode prog_4_method_5_code 144 = .ok (.if_icmp .ne 19, 3)) ∧ (decode prog_4_method_5_code 147 = .ok (.aload_n 0, 1)) ∧ (decode prog_4_method_5_code 148 = .ok (.aload_n 1, 1)) ∧ (decode prog_4_method_5_code 149 = .ok (.iload_n 2, 1)) ∧ (decode prog_4_method_5_code 150 = .ok (.invokevirtual 114, 3)) ∧ (decode prog_4_method_5_code 153 = .ok (.ifCond .eq 21, 3)) ∧ (decode prog_4_method_5_code 156 = .ok (.aload_n 0, 1)) ∧ (decode prog_4_method_5_code 157 = .ok (.invokevirtual 36, 3)) ∧ (decode prog_4_method_5_code 160 = .ok (.ifCond .eq 14, 3)) ∧ (decode prog_4_method_5_code 163 = .ok (.aload_n 0, 1)) ∧ (decode prog_4_method_5_code 164 = .ok (.invokevirtual 117, 3)) ∧ (decode prog_4_method_5_code 167 = .ok (.ifCond .eq 7, 3)) ∧ (decode prog_4_method_5_code 170 = .ok (.iconst 1, 1)) ∧ (decode prog_4_method_5_code 171 = .ok (.goto 4, 3)) ∧ (decode prog_4_method_5_code 174 = .ok (.iconst 0, 1)) ∧ (decode prog_4_method_5_code 175 = .ok (.ireturn, 1)) := by
  have h : List.drop 132 prog_4_method_5_code.data.toList = 0x2a :: _ := rfl
  refine ⟨zq_k_n 42 h rfl (zq_o_42 _), ?_⟩
  replace h := zq_nx1 (q := 133) h rfl
  refine ⟨zq_k_u2 182 (fun z => .invokevirtual z) 36 h rfl (zq_o_182 _) (by decide +kernel), ?_⟩
  replace h := zq_nx3 (q := 136) h rfl
  refine ⟨zq_k_s2 153 (fun z => .ifCond .eq z) 38 h rfl (zq_o_153 _) (by decide +kernel), ?_⟩
  replace h := zq_nx3 (q := 139) h rfl
  refine ⟨zq_k_n 42 h rfl (zq_o_42 _), ?_⟩
  replace h := zq_nx1 (q := 140) h rfl
  refine ⟨zq_k_u2 180 (fun z => .getfield z) 40 h rfl (zq_o_180 _) (by decide +kernel), ?_⟩
  replace h := zq_nx3 (q := 143) h rfl
  refine ⟨zq_k_n 5 h rfl (zq_o_5 _), ?_⟩
  replace h := zq_nx1 (q := 144) h rfl
  refine ⟨zq_k_s2 160 (fun z => .if_icmp .ne z) 19 h rfl (zq_o_160 _) (by decide +kernel), ?_⟩
  replace h := zq_nx3 (q := 147) h rfl
  refine ⟨zq_k_n 42 h rfl (zq_o_42 _), ?_⟩
  replace h := zq_nx1 (q := 148) h rfl
  refine ⟨zq_k_n 43 h rfl (zq_o_43 _), ?_⟩
  replace h := zq_nx1 (q := 149) h rfl
  refine ⟨zq_k_n 28 h rfl (zq_o_28 _), ?_⟩
  replace h := zq_nx1 (q := 150) h rfl
  refine ⟨zq_k_u2 182 (fun z => .invokevirtual z) 114 h rfl (zq_o_182 _) (by decide +kernel), ?_⟩
  replace h := zq_nx3 (q := 153) h rfl
  refine ⟨zq_k_s2 153 (fun z => .ifCond .eq z) 21 h rfl (zq_o_153 _) (by decide +kernel), ?_⟩
  replace h := zq_nx3 (q := 156) h rfl
  refine ⟨zq_k_n 42 h rfl (zq_o_42 _), ?_⟩
  replace h := zq_nx1 (q := 157) h rfl
  refine ⟨zq_k_u2 182 (fun z => .invokevirtual z) 36 h rfl (zq_o_182 _) (by decide +kernel), ?_⟩
  replace h := zq_nx3 (q := 160) h rfl
  refine ⟨zq_k_s2 153 (fun z => .ifCond .eq z) 14 h rfl (zq_o_153 _) (by decide +kernel), ?_⟩
  replace h := zq_nx3 (q := 163) h rfl
  refine ⟨zq_k_n 42 h rfl (zq_o_42 _), ?_⟩
  replace h := zq_nx1 (q := 164) h rfl
  refine ⟨zq_k_u2 182 (fun z => .invokevirtual z) 117 h rfl (zq_o_182 _) (by decide +kernel), ?_⟩
  replace h := zq_nx3 (q := 167) h rfl
  refine ⟨zq_k_s2 153 (fun z => .ifCond .eq z) 7 h rfl (zq_o_153 _) (by decide +kernel), ?_⟩
  replace h := zq_nx3 (q := 170) h rfl
  refine ⟨zq_k_n 4 h rfl (zq_o_4 _), ?_⟩
  replace h := zq_nx1 (q := 171) h rfl
  refine ⟨zq_k_s2 167 (fun z => .goto z) 4 h rfl (zq_o_167 _) (by decide +kernel), ?_⟩
  replace h := zq_nx3 (q := 174) h rfl
  refine ⟨zq_k_n 3 h rfl (zq_o_3 _), ?_⟩
  replace h := zq_nx1 (q := 175) h rfl
  exact zq_k_n 172 h rfl (zq_o_172 _)
def f_Reader_takeLaw_174   (h : mH) : Option (Int32 × mH) :=
  some ((0 : Int32), h)
set_option maxRecDepth 20000 in
theorem t_Reader_takeLaw_174 {sc : Nat × (Nat → Int32)}   (h : mH) (r : Int32) (h' : mH) (hf : f_Reader_takeLaw_174   h = some (r, h')) : G sc y_Reader_takeLaw prog_4_method_5_code 3 (some .boolean) 3 66 174 [] [] h (some (.int r)) h' := by
  unfold f_Reader_takeLaw_174 at hf
  refine g_iconst (pc := 174) (0 : Int32) dd_Reader_takeLaw_132.2.2.2.2.2.2.2.2.2.2.2.2.2.2.2.2.2.2.2.2.1 (by decide) ?_
  obtain ⟨rfl, rfl⟩ := ret2 hf
  exact g_zret (pc := 175) rfl rfl dd_Reader_takeLaw_132.2.2.2.2.2.2.2.2.2.2.2.2.2.2.2.2.2.2.2.2.2
def f_Reader_takeLaw_163  (b0 : Nat) (h : mH) : Option (Int32 × mH) :=
  bd1 (kC h b0 3) fun _ =>
  bd2 (f_Reader_isStop b0 h) fun x103 h101 =>
  if x103 = 0 then
    f_Reader_takeLaw_174  h101
  else
    some ((1 : Int32), h101)
set_option maxRecDepth 20000 in
theorem t_Reader_takeLaw_163 {sc : Nat × (Nat → Int32)}  (b0 : Nat) (h : mH) (r : Int32) (h' : mH) (hf : f_Reader_takeLaw_163  b0 h = some (r, h')) : G sc y_Reader_takeLaw prog_4_method_5_code 3 (some .boolean) 3 66 163 [(0, .ref b0)] [] h (some (.int r)) h' := by
  unfold f_Reader_takeLaw_163 at hf
  refine g_aload_n (pc := 163) 0 dd_Reader_takeLaw_132.2.2.2.2.2.2.2.2.2.2.2.2.2.2.2.1 rfl rfl ?_
  obtain ⟨u100, e99, hf⟩ := bd1_e hf
  obtain ⟨x103, h101, e102, hf⟩ := bd2_e hf
  refine g_callV (pc := 164) (ci := 3) [] (site_of si_Reader_isStop (by decide) (by decide)) wd_455 wd_457 wp_12 dd_Reader_takeLaw_132.2.2.2.2.2.2.2.2.2.2.2.2.2.2.2.2.1 rfl e99 (Nat.le_of_ble_eq_true rfl) (fun z => absurd z si_na_Reader_isStop) (fun z => absurd z si_na_Reader_isStop) (fun z => absurd z si_na_Reader_isStop) (c_Reader_isStop e102) rfl ?_
  refine g_st [.int x103] rfl ?_
  refine g_ifeq (pc := 167) 174 dd_Reader_takeLaw_132.2.2.2.2.2.2.2.2.2.2.2.2.2.2.2.2.2.1 (by decide) (fun c104 => ?_) (fun c104 => ?_)
  · replace hf := (if_pos c104).symm.trans hf
    refine g_lv [] rfl ?_
    exact t_Reader_takeLaw_174  _ _ _  hf
  · replace hf := (if_neg c104).symm.trans hf
    refine g_iconst (pc := 170) (1 : Int32) dd_Reader_takeLaw_132.2.2.2.2.2.2.2.2.2.2.2.2.2.2.2.2.2.2.1 (by decide) ?_
    refine g_goto (pc := 171) 175 dd_Reader_takeLaw_132.2.2.2.2.2.2.2.2.2.2.2.2.2.2.2.2.2.2.2.1 (by decide) ?_
    obtain ⟨rfl, rfl⟩ := ret2 hf
    exact g_zret (pc := 175) rfl rfl dd_Reader_takeLaw_132.2.2.2.2.2.2.2.2.2.2.2.2.2.2.2.2.2.2.2.2.2
def f_Reader_takeLaw_0  (a0 : Nat) (a1 : Nat) (a2 : Int32) (h : mH) : Option (Int32 × mH) :=
  if a2 < (5 : Int32) then
    bd1 (gR h a1 4 10) fun x1 =>
    bd1 (sI h 0 x1 a2 ((-4) : Int32)) fun h3 =>
    bd1 (gI h3 a1 4 4) fun x5 =>
    bd1 (pV h3 a1 4 4 (.int (x5 ||| ((1 : Int32) <<< (a2 &&& 31))))) fun h7 =>
    bd1 (gI h7 a1 4 0) fun x9 =>
    bd1 (pV h7 a1 4 0 (.int (x9 + (1 : Int32)))) fun h11 =>
    bd1 (kC h11 a0 3) fun _ =>
    bd2 (f_Reader_takeNumber a0 (0 : Int32) (9 : Int32) h11) fun x17 h15 =>
    if x17 = 0 then
      f_Reader_takeLaw_174  h15
    else
      bd1 (gR h15 a1 4 6) fun x18 =>
      bd1 (kC h15 a0 3) fun _ =>
      bd2 (f_Reader_putInto a0 x18 a2 h15) fun x24 h22 =>
      if x24 = 0 then
        f_Reader_takeLaw_174  h22
      else
        bd1 (kC h22 a0 3) fun _ =>
        bd2 (f_Reader_takeNumber a0 (1 : Int32) (3 : Int32) h22) fun x29 h27 =>
        if x29 = 0 then
          f_Reader_takeLaw_174  h27
        else
          bd1 (gR h27 a1 4 7) fun x30 =>
          bd1 (kC h27 a0 3) fun _ =>
          bd2 (f_Reader_putInto a0 x30 a2 h27) fun x36 h34 =>
          if x36 = 0 then
            f_Reader_takeLaw_174  h34
          else
            bd1 (kC h34 a0 3) fun _ =>
            bd2 (f_Reader_takeNumber a0 (0 : Int32) (9 : Int32) h34) fun x41 h39 =>
            if x41 = 0 then
              f_Reader_takeLaw_174  h39
            else
              bd1 (gR h39 a1 4 8) fun x42 =>
              bd1 (kC h39 a0 3) fun _ =>
              bd2 (f_Reader_putInto a0 x42 a2 h39) fun x48 h46 =>
              if x48 = 0 then
                f_Reader_takeLaw_174  h46
              else
                bd1 (kC h46 a0 3) fun _ =>
                bd2 (f_Reader_takeNumber a0 (0 : Int32) (9 : Int32) h46) fun x53 h51 =>
                if x53 = 0 then
                  f_Reader_takeLaw_174  h51
                else
                  bd1 (gR h51 a1 4 9) fun x54 =>
                  bd1 (kC h51 a0 3) fun _ =>
                  bd2 (f_Reader_putInto a0 x54 a2 h51) fun x60 h58 =>
                  if x60 = 0 then
                    f_Reader_takeLaw_174  h58
                  else
                    bd1 (kC h58 a0 3) fun _ =>
                    bd2 (f_Reader_takeToken a0 h58) fun x65 h63 =>
                    if x65 = 0 then
                      f_Reader_takeLaw_174  h63
                    else
                      bd1 (gI h63 a0 3 6) fun x66 =>
                      if x66 = (2 : Int32) then
                        bd1 (kC h63 a0 3) fun _ =>
                        bd2 (f_Reader_takeCarried a0 a1 a2 h63) fun x72 h70 =>
                        if x72 = 0 then
                          f_Reader_takeLaw_174  h70
                        else
                          bd1 (kC h70 a0 3) fun _ =>
                          bd2 (f_Reader_takeToken a0 h70) fun x77 h75 =>
                          if x77 = 0 then
                            f_Reader_takeLaw_174  h75
                          else
                            f_Reader_takeLaw_163  a0 h75
                      else
                        f_Reader_takeLaw_163  a0 h63
  else
    bd1 (gI h a0 3 7) fun x90 =>
    bd1 (kC h a0 3) fun _ =>
    bd2 (f_Reader_fail a0 (5 : Int32) x90 h) fun x96 h94 =>
    if x96 = 0 ∨ x96 = 1 then some (x96, h94) else none
set_option maxRecDepth 20000 in
theorem t_Reader_takeLaw_0 {sc : Nat × (Nat → Int32)}  (a0 : Nat) (a1 : Nat) (a2 : Int32) (h : mH) (r : Int32) (h' : mH) (hf : f_Reader_takeLaw_0  a0 a1 a2 h = some (r, h')) : G sc y_Reader_takeLaw prog_4_method_5_code 3 (some .boolean) 3 66 0 [(0, .ref a0), (1, .ref a1), (2, .int a2)] [] h (some (.int r)) h' := by
  unfold f_Reader_takeLaw_0 at hf
  refine g_iload_n (pc := 0) 2 dd_Reader_takeLaw_0.1 rfl rfl ?_
  refine g_iconst (pc := 1) (5 : Int32) dd_Reader_takeLaw_0.2.1 (by decide) ?_
  refine g_icmplt (pc := 2) 15 dd_Reader_takeLaw_0.2.2.1 (by decide) (fun c98 => ?_) (fun c98 => ?_)
  · replace hf := (if_pos c98).symm.trans hf
    refine g_aload_n (pc := 15) 1 dd_Reader_takeLaw_0.2.2.2.2.2.2.2.2.2.1 rfl rfl ?_
    obtain ⟨x1, e2, hf⟩ := bd1_e hf
    refine g_get (pc := 16) (ci := 4) (kk := 10) dd_Reader_takeLaw_0.2.2.2.2.2.2.2.2.2.2.1 rfl in_Realm (by decide) wd_128 (gR_spec e2) ?_
    refine g_iload_n (pc := 19) 2 dd_Reader_takeLaw_0.2.2.2.2.2.2.2.2.2.2.2.1 rfl rfl ?_
    refine g_bipush (pc := 20) ((-4) : Int32) dd_Reader_takeLaw_0.2.2.2.2.2.2.2.2.2.2.2.2.1 (by decide) ?_
    obtain ⟨h3, e4, hf⟩ := bd1_e hf
    refine g_iast (pc := 22) dd_Reader_takeLaw_0.2.2.2.2.2.2.2.2.2.2.2.2.2.1 e4 ?_
    refine g_aload_n (pc := 23) 1 dd_Reader_takeLaw_0.2.2.2.2.2.2.2.2.2.2.2.2.2.2.1 rfl rfl ?_
    refine g_dup (pc := 24) dd_Reader_takeLaw_0.2.2.2.2.2.2.2.2.2.2.2.2.2.2.2.1 rfl ?_
    obtain ⟨x5, e6, hf⟩ := bd1_e hf
    refine g_get (pc := 25) (ci := 4) (kk := 4) dd_Reader_takeLaw_0.2.2.2.2.2.2.2.2.2.2.2.2.2.2.2.2.1 rfl in_Realm (by decide) wd_108 (gI_spec e6) ?_
    refine g_iconst (pc := 28) (1 : Int32) dd_Reader_takeLaw_0.2.2.2.2.2.2.2.2.2.2.2.2.2.2.2.2.2.1 (by decide) ?_
    refine g_iload_n (pc := 29) 2 dd_Reader_takeLaw_0.2.2.2.2.2.2.2.2.2.2.2.2.2.2.2.2.2.2.1 rfl rfl ?_
    refine g_ishl (pc := 30) dd_Reader_takeLaw_0.2.2.2.2.2.2.2.2.2.2.2.2.2.2.2.2.2.2.2.1 ?_
    refine g_ior (pc := 31) dd_Reader_takeLaw_0.2.2.2.2.2.2.2.2.2.2.2.2.2.2.2.2.2.2.2.2.1 ?_
    obtain ⟨h7, e8, hf⟩ := bd1_e hf
    refine g_put (pc := 32) (ci := 4) (kk := 4) ty_Realm tyok_Realm nm_Realm dd_Reader_takeLaw_0.2.2.2.2.2.2.2.2.2.2.2.2.2.2.2.2.2.2.2.2.2.1 rfl in_Realm (by decide) wd_108 rfl (fun _ => rfl) (fun _ => rfl) (fun _ z => by cases z) e8 ?_
    refine g_aload_n (pc := 35) 1 dd_Reader_takeLaw_0.2.2.2.2.2.2.2.2.2.2.2.2.2.2.2.2.2.2.2.2.2.2.1 rfl rfl ?_
    refine g_dup (pc := 36) dd_Reader_takeLaw_0.2.2.2.2.2.2.2.2.2.2.2.2.2.2.2.2.2.2.2.2.2.2.2 rfl ?_
    obtain ⟨x9, e10, hf⟩ := bd1_e hf
    refine g_get (pc := 37) (ci := 4) (kk := 0) dd_Reader_takeLaw_37.1 rfl in_Realm (by decide) wd_96 (gI_spec e10) ?_
    refine g_iconst (pc := 40) (1 : Int32) dd_Reader_takeLaw_37.2.1 (by decide) ?_
    refine g_iadd (pc := 41) dd_Reader_takeLaw_37.2.2.1 ?_
    obtain ⟨h11, e12, hf⟩ := bd1_e hf
    refine g_put (pc := 42) (ci := 4) (kk := 0) ty_Realm tyok_Realm nm_Realm dd_Reader_takeLaw_37.2.2.2.1 rfl in_Realm (by decide) wd_96 rfl (fun _ => rfl) (fun _ => rfl) (fun _ z => by cases z) e12 ?_
    refine g_aload_n (pc := 45) 0 dd_Reader_takeLaw_37.2.2.2.2.1 rfl rfl ?_
    refine g_iconst (pc := 46) (0 : Int32) dd_Reader_takeLaw_37.2.2.2.2.2.1 (by decide) ?_
    refine g_bipush (pc := 47) (9 : Int32) dd_Reader_takeLaw_37.2.2.2.2.2.2.1 (by decide) ?_
    obtain ⟨u14, e13, hf⟩ := bd1_e hf
    obtain ⟨x17, h15, e16, hf⟩ := bd2_e hf
    refine g_callV (pc := 49) (ci := 3) [.int (0 : Int32), .int (9 : Int32)] (site_of si_Reader_takeNumber (by decide) (by decide)) wd_438 wd_440 wp_8 dd_Reader_takeLaw_37.2.2.2.2.2.2.2.1 rfl e13 (Nat.le_of_ble_eq_true rfl) (fun z => absurd z si_na_Reader_takeNumber) (fun z => absurd z si_na_Reader_takeNumber) (fun z => absurd z si_na_Reader_takeNumber) (c_Reader_takeNumber e16) rfl ?_
    refine g_st [.int x17] rfl ?_
    refine g_ifeq (pc := 52) 174 dd_Reader_takeLaw_37.2.2.2.2.2.2.2.2.1 (by decide) (fun c89 => ?_) (fun c89 => ?_)
    · replace hf := (if_pos c89).symm.trans hf
      refine g_lv [] rfl ?_
      exact t_Reader_takeLaw_174  _ _ _  hf
    · replace hf := (if_neg c89).symm.trans hf
      refine g_aload_n (pc := 55) 0 dd_Reader_takeLaw_37.2.2.2.2.2.2.2.2.2.1 rfl rfl ?_
      refine g_aload_n (pc := 56) 1 dd_Reader_takeLaw_37.2.2.2.2.2.2.2.2.2.2.1 rfl rfl ?_
      obtain ⟨x18, e19, hf⟩ := bd1_e hf
      refine g_get (pc := 57) (ci := 4) (kk := 6) dd_Reader_takeLaw_37.2.2.2.2.2.2.2.2.2.2.2.1 rfl in_Realm (by decide) wd_114 (gR_spec e19) ?_
      refine g_iload_n (pc := 60) 2 dd_Reader_takeLaw_37.2.2.2.2.2.2.2.2.2.2.2.2.1 rfl rfl ?_
      obtain ⟨u21, e20, hf⟩ := bd1_e hf
      obtain ⟨x24, h22, e23, hf⟩ := bd2_e hf
      refine g_callV (pc := 61) (ci := 3) [.ref x18, .int a2] (site_of si_Reader_putInto (by decide) (by decide)) wd_447 wd_449 wp_10 dd_Reader_takeLaw_37.2.2.2.2.2.2.2.2.2.2.2.2.2.1 rfl e20 (Nat.le_of_ble_eq_true rfl) (fun z => absurd z si_na_Reader_putInto) (fun z => absurd z si_na_Reader_putInto) (fun z => absurd z si_na_Reader_putInto) (c_Reader_putInto e23) rfl ?_
      refine g_st [.int x24] rfl ?_
      refine g_ifeq (pc := 64) 174 dd_Reader_takeLaw_37.2.2.2.2.2.2.2.2.2.2.2.2.2.2.1 (by decide) (fun c88 => ?_) (fun c88 => ?_)
      · replace hf := (if_pos c88).symm.trans hf
        refine g_lv [] rfl ?_
        exact t_Reader_takeLaw_174  _ _ _  hf
      · replace hf := (if_neg c88).symm.trans hf
        refine g_aload_n (pc := 67) 0 dd_Reader_takeLaw_37.2.2.2.2.2.2.2.2.2.2.2.2.2.2.2.1 rfl rfl ?_
        refine g_iconst (pc := 68) (1 : Int32) dd_Reader_takeLaw_37.2.2.2.2.2.2.2.2.2.2.2.2.2.2.2.2.1 (by decide) ?_
        refine g_iconst (pc := 69) (3 : Int32) dd_Reader_takeLaw_37.2.2.2.2.2.2.2.2.2.2.2.2.2.2.2.2.2.1 (by decide) ?_
        obtain ⟨u26, e25, hf⟩ := bd1_e hf
        obtain ⟨x29, h27, e28, hf⟩ := bd2_e hf
        refine g_callV (pc := 70) (ci := 3) [.int (1 : Int32), .int (3 : Int32)] (site_of si_Reader_takeNumber (by decide) (by decide)) wd_438 wd_440 wp_8 dd_Reader_takeLaw_37.2.2.2.2.2.2.2.2.2.2.2.2.2.2.2.2.2.2.1 rfl e25 (Nat.le_of_ble_eq_true rfl) (fun z => absurd z si_na_Reader_takeNumber) (fun z => absurd z si_na_Reader_takeNumber) (fun z => absurd z si_na_Reader_takeNumber) (c_Reader_takeNumber e28) rfl ?_
        refine g_st [.int x29] rfl ?_
        refine g_ifeq (pc := 73) 174 dd_Reader_takeLaw_37.2.2.2.2.2.2.2.2.2.2.2.2.2.2.2.2.2.2.2.1 (by decide) (fun c87 => ?_) (fun c87 => ?_)
        · replace hf := (if_pos c87).symm.trans hf
          refine g_lv [] rfl ?_
          exact t_Reader_takeLaw_174  _ _ _  hf
        · replace hf := (if_neg c87).symm.trans hf
          refine g_aload_n (pc := 76) 0 dd_Reader_takeLaw_37.2.2.2.2.2.2.2.2.2.2.2.2.2.2.2.2.2.2.2.2.1 rfl rfl ?_
          refine g_aload_n (pc := 77) 1 dd_Reader_takeLaw_37.2.2.2.2.2.2.2.2.2.2.2.2.2.2.2.2.2.2.2.2.2.1 rfl rfl ?_
          obtain ⟨x30, e31, hf⟩ := bd1_e hf
          refine g_get (pc := 78) (ci := 4) (kk := 7) dd_Reader_takeLaw_37.2.2.2.2.2.2.2.2.2.2.2.2.2.2.2.2.2.2.2.2.2.2.1 rfl in_Realm (by decide) wd_118 (gR_spec e31) ?_
          refine g_iload_n (pc := 81) 2 dd_Reader_takeLaw_37.2.2.2.2.2.2.2.2.2.2.2.2.2.2.2.2.2.2.2.2.2.2.2 rfl rfl ?_
          obtain ⟨u33, e32, hf⟩ := bd1_e hf
          obtain ⟨x36, h34, e35, hf⟩ := bd2_e hf
          refine g_callV (pc := 82) (ci := 3) [.ref x30, .int a2] (site_of si_Reader_putInto (by decide) (by decide)) wd_447 wd_449 wp_10 dd_Reader_takeLaw_82.1 rfl e32 (Nat.le_of_ble_eq_true rfl) (fun z => absurd z si_na_Reader_putInto) (fun z => absurd z si_na_Reader_putInto) (fun z => absurd z si_na_Reader_putInto) (c_Reader_putInto e35) rfl ?_
          refine g_st [.int x36] rfl ?_
          refine g_ifeq (pc := 85) 174 dd_Reader_takeLaw_82.2.1 (by decide) (fun c86 => ?_) (fun c86 => ?_)
          · replace hf := (if_pos c86).symm.trans hf
            refine g_lv [] rfl ?_
            exact t_Reader_takeLaw_174  _ _ _  hf
          · replace hf := (if_neg c86).symm.trans hf
            refine g_aload_n (pc := 88) 0 dd_Reader_takeLaw_82.2.2.1 rfl rfl ?_
            refine g_iconst (pc := 89) (0 : Int32) dd_Reader_takeLaw_82.2.2.2.1 (by decide) ?_
            refine g_bipush (pc := 90) (9 : Int32) dd_Reader_takeLaw_82.2.2.2.2.1 (by decide) ?_
            obtain ⟨u38, e37, hf⟩ := bd1_e hf
            obtain ⟨x41, h39, e40, hf⟩ := bd2_e hf
            refine g_callV (pc := 92) (ci := 3) [.int (0 : Int32), .int (9 : Int32)] (site_of si_Reader_takeNumber (by decide) (by decide)) wd_438 wd_440 wp_8 dd_Reader_takeLaw_82.2.2.2.2.2.1 rfl e37 (Nat.le_of_ble_eq_true rfl) (fun z => absurd z si_na_Reader_takeNumber) (fun z => absurd z si_na_Reader_takeNumber) (fun z => absurd z si_na_Reader_takeNumber) (c_Reader_takeNumber e40) rfl ?_
            refine g_st [.int x41] rfl ?_
            refine g_ifeq (pc := 95) 174 dd_Reader_takeLaw_82.2.2.2.2.2.2.1 (by decide) (fun c85 => ?_) (fun c85 => ?_)
            · replace hf := (if_pos c85).symm.trans hf
              refine g_lv [] rfl ?_
              exact t_Reader_takeLaw_174  _ _ _  hf
            · replace hf := (if_neg c85).symm.trans hf
              refine g_aload_n (pc := 98) 0 dd_Reader_takeLaw_82.2.2.2.2.2.2.2.1 rfl rfl ?_
              refine g_aload_n (pc := 99) 1 dd_Reader_takeLaw_82.2.2.2.2.2.2.2.2.1 rfl rfl ?_
              obtain ⟨x42, e43, hf⟩ := bd1_e hf
              refine g_get (pc := 100) (ci := 4) (kk := 8) dd_Reader_takeLaw_82.2.2.2.2.2.2.2.2.2.1 rfl in_Realm (by decide) wd_122 (gR_spec e43) ?_
              refine g_iload_n (pc := 103) 2 dd_Reader_takeLaw_82.2.2.2.2.2.2.2.2.2.2.1 rfl rfl ?_
              obtain ⟨u45, e44, hf⟩ := bd1_e hf
              obtain ⟨x48, h46, e47, hf⟩ := bd2_e hf
              refine g_callV (pc := 104) (ci := 3) [.ref x42, .int a2] (site_of si_Reader_putInto (by decide) (by decide)) wd_447 wd_449 wp_10 dd_Reader_takeLaw_82.2.2.2.2.2.2.2.2.2.2.2.1 rfl e44 (Nat.le_of_ble_eq_true rfl) (fun z => absurd z si_na_Reader_putInto) (fun z => absurd z si_na_Reader_putInto) (fun z => absurd z si_na_Reader_putInto) (c_Reader_putInto e47) rfl ?_
              refine g_st [.int x48] rfl ?_
              refine g_ifeq (pc := 107) 174 dd_Reader_takeLaw_82.2.2.2.2.2.2.2.2.2.2.2.2.1 (by decide) (fun c84 => ?_) (fun c84 => ?_)
              · replace hf := (if_pos c84).symm.trans hf
                refine g_lv [] rfl ?_
                exact t_Reader_takeLaw_174  _ _ _  hf
              · replace hf := (if_neg c84).symm.trans hf
                refine g_aload_n (pc := 110) 0 dd_Reader_takeLaw_82.2.2.2.2.2.2.2.2.2.2.2.2.2.1 rfl rfl ?_
                refine g_iconst (pc := 111) (0 : Int32) dd_Reader_takeLaw_82.2.2.2.2.2.2.2.2.2.2.2.2.2.2.1 (by decide) ?_
                refine g_bipush (pc := 112) (9 : Int32) dd_Reader_takeLaw_82.2.2.2.2.2.2.2.2.2.2.2.2.2.2.2.1 (by decide) ?_
                obtain ⟨u50, e49, hf⟩ := bd1_e hf
                obtain ⟨x53, h51, e52, hf⟩ := bd2_e hf
                refine g_callV (pc := 114) (ci := 3) [.int (0 : Int32), .int (9 : Int32)] (site_of si_Reader_takeNumber (by decide) (by decide)) wd_438 wd_440 wp_8 dd_Reader_takeLaw_82.2.2.2.2.2.2.2.2.2.2.2.2.2.2.2.2.1 rfl e49 (Nat.le_of_ble_eq_true rfl) (fun z => absurd z si_na_Reader_takeNumber) (fun z => absurd z si_na_Reader_takeNumber) (fun z => absurd z si_na_Reader_takeNumber) (c_Reader_takeNumber e52) rfl ?_
                refine g_st [.int x53] rfl ?_
                refine g_ifeq (pc := 117) 174 dd_Reader_takeLaw_82.2.2.2.2.2.2.2.2.2.2.2.2.2.2.2.2.2.1 (by decide) (fun c83 => ?_) (fun c83 => ?_)
                · replace hf := (if_pos c83).symm.trans hf
                  refine g_lv [] rfl ?_
                  exact t_Reader_takeLaw_174  _ _ _  hf
                · replace hf := (if_neg c83).symm.trans hf
                  refine g_aload_n (pc := 120) 0 dd_Reader_takeLaw_82.2.2.2.2.2.2.2.2.2.2.2.2.2.2.2.2.2.2.1 rfl rfl ?_
                  refine g_aload_n (pc := 121) 1 dd_Reader_takeLaw_82.2.2.2.2.2.2.2.2.2.2.2.2.2.2.2.2.2.2.2.1 rfl rfl ?_
                  obtain ⟨x54, e55, hf⟩ := bd1_e hf
                  refine g_get (pc := 122) (ci := 4) (kk := 9) dd_Reader_takeLaw_82.2.2.2.2.2.2.2.2.2.2.2.2.2.2.2.2.2.2.2.2.1 rfl in_Realm (by decide) wd_125 (gR_spec e55) ?_
                  refine g_iload_n (pc := 125) 2 dd_Reader_takeLaw_82.2.2.2.2.2.2.2.2.2.2.2.2.2.2.2.2.2.2.2.2.2.1 rfl rfl ?_
                  obtain ⟨u57, e56, hf⟩ := bd1_e hf
                  obtain ⟨x60, h58, e59, hf⟩ := bd2_e hf
                  refine g_callV (pc := 126) (ci := 3) [.ref x54, .int a2] (site_of si_Reader_putInto (by decide) (by decide)) wd_447 wd_449 wp_10 dd_Reader_takeLaw_82.2.2.2.2.2.2.2.2.2.2.2.2.2.2.2.2.2.2.2.2.2.2.1 rfl e56 (Nat.le_of_ble_eq_true rfl) (fun z => absurd z si_na_Reader_putInto) (fun z => absurd z si_na_Reader_putInto) (fun z => absurd z si_na_Reader_putInto) (c_Reader_putInto e59) rfl ?_
                  refine g_st [.int x60] rfl ?_
                  refine g_ifeq (pc := 129) 174 dd_Reader_takeLaw_82.2.2.2.2.2.2.2.2.2.2.2.2.2.2.2.2.2.2.2.2.2.2.2 (by decide) (fun c82 => ?_) (fun c82 => ?_)
                  · replace hf := (if_pos c82).symm.trans hf
                    refine g_lv [] rfl ?_
                    exact t_Reader_takeLaw_174  _ _ _  hf
                  · replace hf := (if_neg c82).symm.trans hf
                    refine g_aload_n (pc := 132) 0 dd_Reader_takeLaw_132.1 rfl rfl ?_
                    obtain ⟨u62, e61, hf⟩ := bd1_e hf
                    obtain ⟨x65, h63, e64, hf⟩ := bd2_e hf
                    refine g_callV (pc := 133) (ci := 3) [] (site_of si_Reader_takeToken (by decide) (by decide)) wd_357 wd_359 wp_0 dd_Reader_takeLaw_132.2.1 rfl e61 (Nat.le_of_ble_eq_true rfl) (fun z => absurd z si_na_Reader_takeToken) (fun z => absurd z si_na_Reader_takeToken) (fun z => absurd z si_na_Reader_takeToken) (c_Reader_takeToken e64) rfl ?_
                    refine g_st [.int x65] rfl ?_
                    refine g_ifeq (pc := 136) 174 dd_Reader_takeLaw_132.2.2.1 (by decide) (fun c81 => ?_) (fun c81 => ?_)
                    · replace hf := (if_pos c81).symm.trans hf
                      refine g_lv [] rfl ?_
                      exact t_Reader_takeLaw_174  _ _ _  hf
                    · replace hf := (if_neg c81).symm.trans hf
                      refine g_aload_n (pc := 139) 0 dd_Reader_takeLaw_132.2.2.2.1 rfl rfl ?_
                      obtain ⟨x66, e67, hf⟩ := bd1_e hf
                      refine g_get (pc := 140) (ci := 3) (kk := 6) dd_Reader_takeLaw_132.2.2.2.2.1 rfl in_Reader (by decide) wd_42 (gI_spec e67) ?_
                      refine g_iconst (pc := 143) (2 : Int32) dd_Reader_takeLaw_132.2.2.2.2.2.1 (by decide) ?_
                      refine g_icmpne (pc := 144) 163 dd_Reader_takeLaw_132.2.2.2.2.2.2.1 (by decide) (fun c80 => ?_) (fun c80 => ?_)
                      · replace hf := (if_neg c80).symm.trans hf
                        refine g_lv [0] rfl ?_
                        exact t_Reader_takeLaw_163  _ _ _ _  hf
                      · replace hf := (if_pos c80).symm.trans hf
                        refine g_aload_n (pc := 147) 0 dd_Reader_takeLaw_132.2.2.2.2.2.2.2.1 rfl rfl ?_
                        refine g_aload_n (pc := 148) 1 dd_Reader_takeLaw_132.2.2.2.2.2.2.2.2.1 rfl rfl ?_
                        refine g_iload_n (pc := 149) 2 dd_Reader_takeLaw_132.2.2.2.2.2.2.2.2.2.1 rfl rfl ?_
                        obtain ⟨u69, e68, hf⟩ := bd1_e hf
                        obtain ⟨x72, h70, e71, hf⟩ := bd2_e hf
                        refine g_callV (pc := 150) (ci := 3) [.ref a1, .int a2] (site_of si_Reader_takeCarried (by decide) (by decide)) wd_451 wd_453 wp_11 dd_Reader_takeLaw_132.2.2.2.2.2.2.2.2.2.2.1 rfl e68 (Nat.le_of_ble_eq_true rfl) (fun z => absurd z si_na_Reader_takeCarried) (fun z => absurd z si_na_Reader_takeCarried) (fun z => absurd z si_na_Reader_takeCarried) (c_Reader_takeCarried e71) rfl ?_
                        refine g_st [.int x72] rfl ?_
                        refine g_ifeq (pc := 153) 174 dd_Reader_takeLaw_132.2.2.2.2.2.2.2.2.2.2.2.1 (by decide) (fun c79 => ?_) (fun c79 => ?_)
                        · replace hf := (if_pos c79).symm.trans hf
                          refine g_lv [] rfl ?_
                          exact t_Reader_takeLaw_174  _ _ _  hf
                        · replace hf := (if_neg c79).symm.trans hf
                          refine g_aload_n (pc := 156) 0 dd_Reader_takeLaw_132.2.2.2.2.2.2.2.2.2.2.2.2.1 rfl rfl ?_
                          obtain ⟨u74, e73, hf⟩ := bd1_e hf
                          obtain ⟨x77, h75, e76, hf⟩ := bd2_e hf
                          refine g_callV (pc := 157) (ci := 3) [] (site_of si_Reader_takeToken (by decide) (by decide)) wd_357 wd_359 wp_0 dd_Reader_takeLaw_132.2.2.2.2.2.2.2.2.2.2.2.2.2.1 rfl e73 (Nat.le_of_ble_eq_true rfl) (fun z => absurd z si_na_Reader_takeToken) (fun z => absurd z si_na_Reader_takeToken) (fun z => absurd z si_na_Reader_takeToken) (c_Reader_takeToken e76) rfl ?_
                          refine g_st [.int x77] rfl ?_
                          refine g_ifeq (pc := 160) 174 dd_Reader_takeLaw_132.2.2.2.2.2.2.2.2.2.2.2.2.2.2.1 (by decide) (fun c78 => ?_) (fun c78 => ?_)
                          · replace hf := (if_pos c78).symm.trans hf
                            refine g_lv [] rfl ?_
                            exact t_Reader_takeLaw_174  _ _ _  hf
                          · replace hf := (if_neg c78).symm.trans hf
                            refine g_lv [0] rfl ?_
                            exact t_Reader_takeLaw_163  _ _ _ _  hf
  · replace hf := (if_neg c98).symm.trans hf
    refine g_aload_n (pc := 5) 0 dd_Reader_takeLaw_0.2.2.2.1 rfl rfl ?_
    refine g_iconst (pc := 6) (5 : Int32) dd_Reader_takeLaw_0.2.2.2.2.1 (by decide) ?_
    refine g_aload_n (pc := 7) 0 dd_Reader_takeLaw_0.2.2.2.2.2.1 rfl rfl ?_
    obtain ⟨x90, e91, hf⟩ := bd1_e hf
    refine g_get (pc := 8) (ci := 3) (kk := 7) dd_Reader_takeLaw_0.2.2.2.2.2.2.1 rfl in_Reader (by decide) wd_43 (gI_spec e91) ?_
    obtain ⟨u93, e92, hf⟩ := bd1_e hf
    obtain ⟨x96, h94, e95, hf⟩ := bd2_e hf
    refine g_callV (pc := 11) (ci := 3) [.int (5 : Int32), .int x90] (site_of si_Reader_fail (by decide) (by decide)) wd_373 wd_375 wp_4 dd_Reader_takeLaw_0.2.2.2.2.2.2.2.1 rfl e92 (Nat.le_of_ble_eq_true rfl) (fun z => absurd z si_na_Reader_fail) (fun z => absurd z si_na_Reader_fail) (fun z => absurd z si_na_Reader_fail) (c_Reader_fail e95) rfl ?_
    refine g_st [.int x96] rfl ?_
    by_cases c97 : x96 = 0 ∨ x96 = 1
    · replace hf := (if_pos c97).symm.trans hf
      obtain ⟨rfl, rfl⟩ := ret2 hf
      exact g_zret (pc := 14) rfl (nar_z c97) dd_Reader_takeLaw_0.2.2.2.2.2.2.2.2.1
    · exact absurd ((if_neg c97).symm.trans hf) (by simp)
def f_Reader_takeLaw (a0 : Nat) (a1 : Nat) (a2 : Int32) (h : mH) : Option (Int32 × mH) := f_Reader_takeLaw_0 a0 a1 a2 h
theorem c_Reader_takeLaw {sc : Nat × (Nat → Int32)} {a0 : Nat} {a1 : Nat} {a2 : Int32} {h : mH} {r : Int32} {h' : mH} (hf : f_Reader_takeLaw a0 a1 a2 h = some (r, h')) : MM sc y_Reader_takeLaw prog_4_method_5_code 3 (some .boolean) 3 66 [.ref a0, .ref a1, .int a2] h (some (.int r)) h' :=
  mm_of_G si_pn_Reader (Nat.le_of_ble_eq_true rfl) (t_Reader_takeLaw_0 _ _ _ _ _ _ hf)
/-! Q hasBit (II)Z -/
set_option maxRecDepth 100000 in
theorem dd_Q_hasBit_0 : (decode prog_1_method_42_code 0 = .ok (.iload_n 0, 1)) ∧ (decode prog_1_method_42_code 1 = .ok (.iload_n 1, 1)) ∧ (decode prog_1_method_42_code 2 = .ok (.ishr, 1)) ∧ (decode prog_1_method_42_code 3 = .ok (.iconst 1, 1)) ∧ (decode prog_1_method_42_code 4 = .ok (.iand, 1)) ∧ (decode prog_1_method_42_code 5 = .ok (.ifCond .eq 7, 3)) ∧ (decode prog_1_method_42_code 8 = .ok (.iconst 1, 1)) ∧ (decode prog_1_method_42_code 9 = .ok (.goto 4, 3)) ∧ (decode prog_1_method_42_code 12 = .ok (.iconst 0, 1)) ∧ (decode prog_1_method_42_code 13 = .ok (.ireturn, 1)) := by
  have h : List.drop 0 prog_1_method_42_code.data.toList = 0x1a :: _ := rfl
  refine ⟨zq_k_n 26 h rfl (zq_o_26 _), ?_⟩
  replace h := zq_nx1 (q := 1) h rfl
  refine ⟨zq_k_n 27 h rfl (zq_o_27 _), ?_⟩
  replace h := zq_nx1 (q := 2) h rfl
  refine ⟨zq_k_n 122 h rfl (zq_o_122 _), ?_⟩
  replace h := zq_nx1 (q := 3) h rfl
  refine ⟨zq_k_n 4 h rfl (zq_o_4 _), ?_⟩
  replace h := zq_nx1 (q := 4) h rfl
  refine ⟨zq_k_n 126 h rfl (zq_o_126 _), ?_⟩
  replace h := zq_nx1 (q := 5) h rfl
  refine ⟨zq_k_s2 153 (fun z => .ifCond .eq z) 7 h rfl (zq_o_153 _) (by decide +kernel), ?_⟩
  replace h := zq_nx3 (q := 8) h rfl
  refine ⟨zq_k_n 4 h rfl (zq_o_4 _), ?_⟩
  replace h := zq_nx1 (q := 9) h rfl
  refine ⟨zq_k_s2 167 (fun z => .goto z) 4 h rfl (zq_o_167 _) (by decide +kernel), ?_⟩
  replace h := zq_nx3 (q := 12) h rfl
  refine ⟨zq_k_n 3 h rfl (zq_o_3 _), ?_⟩
  replace h := zq_nx1 (q := 13) h rfl
  exact zq_k_n 172 h rfl (zq_o_172 _)
def f_Q_hasBit_0  (a0 : Int32) (a1 : Int32) (h : mH) : Option (Int32 × mH) :=
  if ((a0 >>> (a1 &&& 31)) &&& (1 : Int32)) = 0 then
    some ((0 : Int32), h)
  else
    some ((1 : Int32), h)
set_option maxRecDepth 20000 in
theorem t_Q_hasBit_0 {sc : Nat × (Nat → Int32)}  (a0 : Int32) (a1 : Int32) (h : mH) (r : Int32) (h' : mH) (hf : f_Q_hasBit_0  a0 a1 h = some (r, h')) : G sc y_Q_hasBit prog_1_method_42_code 2 (some .boolean) 0 0 0 [(0, .int a0), (1, .int a1)] [] h (some (.int r)) h' := by
  unfold f_Q_hasBit_0 at hf
  refine g_iload_n (pc := 0) 0 dd_Q_hasBit_0.1 rfl rfl ?_
  refine g_iload_n (pc := 1) 1 dd_Q_hasBit_0.2.1 rfl rfl ?_
  refine g_ishr (pc := 2) dd_Q_hasBit_0.2.2.1 ?_
  refine g_iconst (pc := 3) (1 : Int32) dd_Q_hasBit_0.2.2.2.1 (by decide) ?_
  refine g_iand (pc := 4) dd_Q_hasBit_0.2.2.2.2.1 ?_
  refine g_ifeq (pc := 5) 12 dd_Q_hasBit_0.2.2.2.2.2.1 (by decide) (fun c1 => ?_) (fun c1 => ?_)
  · replace hf := (if_pos c1).symm.trans hf
    refine g_iconst (pc := 12) (0 : Int32) dd_Q_hasBit_0.2.2.2.2.2.2.2.2.1 (by decide) ?_
    obtain ⟨rfl, rfl⟩ := ret2 hf
    exact g_zret (pc := 13) rfl rfl dd_Q_hasBit_0.2.2.2.2.2.2.2.2.2
  · replace hf := (if_neg c1).symm.trans hf
    refine g_iconst (pc := 8) (1 : Int32) dd_Q_hasBit_0.2.2.2.2.2.2.1 (by decide) ?_
    refine g_goto (pc := 9) 13 dd_Q_hasBit_0.2.2.2.2.2.2.2.1 (by decide) ?_
    obtain ⟨rfl, rfl⟩ := ret2 hf
    exact g_zret (pc := 13) rfl rfl dd_Q_hasBit_0.2.2.2.2.2.2.2.2.2
def f_Q_hasBit (a0 : Int32) (a1 : Int32) (h : mH) : Option (Int32 × mH) := f_Q_hasBit_0 a0 a1 h
theorem c_Q_hasBit {sc : Nat × (Nat → Int32)} {a0 : Int32} {a1 : Int32} {h : mH} {r : Int32} {h' : mH} (hf : f_Q_hasBit a0 a1 h = some (r, h')) : MM sc y_Q_hasBit prog_1_method_42_code 2 (some .boolean) 0 0 [.int a0, .int a1] h (some (.int r)) h' :=
  mm_of_G si_pn_Q (Nat.le_of_ble_eq_true rfl) (t_Q_hasBit_0 _ _ _ _ _ hf)
/-! Reader addLaw ([II)Z -/
set_option maxRecDepth 100000 in
theorem dd_Reader_addLaw_0 : (decode prog_4_method_10_code 0 = .ok (.aload_n 1, 1)) ∧ (decode prog_4_method_10_code 1 = .ok (.iload_n 2, 1)) ∧ (decode prog_4_method_10_code 2 = .ok (.iaload, 1)) ∧ (decode prog_4_method_10_code 3 = .ok (.aload_n 0, 1)) ∧ (decode prog_4_method_10_code 4 = .ok (.getfield 123, 3)) ∧ (decode prog_4_method_10_code 7 = .ok (.invokestatic 150, 3)) ∧ (decode prog_4_method_10_code 10 = .ok (.ifCond .eq 13, 3)) ∧ (decode prog_4_method_10_code 13 = .ok (.aload_n 0, 1)) ∧ (decode prog_4_method_10_code 14 = .ok (.iconst 4, 1)) ∧ (decode prog_4_method_10_code 15 = .ok (.aload_n 0, 1)) ∧ (decode prog_4_method_10_code 16 = .ok (.getfield 85, 3)) ∧ (decode prog_4_method_10_code 19 = .ok (.invokevirtual 50, 3)) ∧ (decode prog_4_method_10_code 22 = .ok (.ireturn, 1)) ∧ (decode prog_4_method_10_code 23 = .ok (.aload_n 1, 1)) ∧ (decode prog_4_method_10_code 24 = .ok (.iload_n 2, 1)) ∧ (decode prog_4_method_10_code 25 = .ok (.dup2, 1)) ∧ (decode prog_4_method_10_code 26 = .ok (.iaload, 1)) ∧ (decode prog_4_method_10_code 27 = .ok (.iconst 1, 1)) ∧ (decode prog_4_method_10_code 28 = .ok (.aload_n 0, 1)) ∧ (decode prog_4_method_10_code 29 = .ok (.getfield 123, 3)) ∧ (decode prog_4_method_10_code 32 = .ok (.ishl, 1)) ∧ (decode prog_4_method_10_code 33 = .ok (.ior, 1)) ∧ (decode prog_4_method_10_code 34 = .ok (.iastore, 1)) ∧ (decode prog_4_method_10_code 35 = .ok (.iconst 1, 1)) := by
  have h : List.drop 0 prog_4_method_10_code.data.toList = 0x2b :: _ := rfl
  refine ⟨zq_k_n 43 h rfl (zq_o_43 _), ?_⟩
  replace h := zq_nx1 (q := 1) h rfl
  refine ⟨zq_k_n 28 h rfl (zq_o_28 _), ?_⟩
  replace h := zq_nx1 (q := 2) h rfl
  refine ⟨zq_k_n 46 h rfl (zq_o_46 _), ?_⟩
  replace h := zq_nx1 (q := 3) h rfl
  refine ⟨zq_k_n 42 h rfl (zq_o_42 _), ?_⟩
  replace h := zq_nx1 (q := 4) h rfl
  refine ⟨zq_k_u2 180 (fun z => .getfield z) 123 h rfl (zq_o_180 _) (by decide +kernel), ?_⟩
  replace h := zq_nx3 (q := 7) h rfl
  refine ⟨zq_k_u2 184 (fun z => .invokestatic z) 150 h rfl (zq_o_184 _) (by decide +kernel), ?_⟩
  replace h := zq_nx3 (q := 10) h rfl
  refine ⟨zq_k_s2 153 (fun z => .ifCond .eq z) 13 h rfl (zq_o_153 _) (by decide +kernel), ?_⟩
  replace h := zq_nx3 (q := 13) h rfl
  refine ⟨zq_k_n 42 h rfl (zq_o_42 _), ?_⟩
  replace h := zq_nx1 (q := 14) h rfl
  refine ⟨zq_k_n 7 h rfl (zq_o_7 _), ?_⟩
  replace h := zq_nx1 (q := 15) h rfl
  refine ⟨zq_k_n 42 h rfl (zq_o_42 _), ?_⟩
  replace h := zq_nx1 (q := 16) h rfl
  refine ⟨zq_k_u2 180 (fun z => .getfield z) 85 h rfl (zq_o_180 _) (by decide +kernel), ?_⟩
  replace h := zq_nx3 (q := 19) h rfl
  refine ⟨zq_k_u2 182 (fun z => .invokevirtual z) 50 h rfl (zq_o_182 _) (by decide +kernel), ?_⟩
  replace h := zq_nx3 (q := 22) h rfl
  refine ⟨zq_k_n 172 h rfl (zq_o_172 _), ?_⟩
  replace h := zq_nx1 (q := 23) h rfl
  refine ⟨zq_k_n 43 h rfl (zq_o_43 _), ?_⟩
  replace h := zq_nx1 (q := 24) h rfl
  refine ⟨zq_k_n 28 h rfl (zq_o_28 _), ?_⟩
  replace h := zq_nx1 (q := 25) h rfl
  refine ⟨zq_k_n 92 h rfl (zq_o_92 _), ?_⟩
  replace h := zq_nx1 (q := 26) h rfl
  refine ⟨zq_k_n 46 h rfl (zq_o_46 _), ?_⟩
  replace h := zq_nx1 (q := 27) h rfl
  refine ⟨zq_k_n 4 h rfl (zq_o_4 _), ?_⟩
  replace h := zq_nx1 (q := 28) h rfl
  refine ⟨zq_k_n 42 h rfl (zq_o_42 _), ?_⟩
  replace h := zq_nx1 (q := 29) h rfl
  refine ⟨zq_k_u2 180 (fun z => .getfield z) 123 h rfl (zq_o_180 _) (by decide +kernel), ?_⟩
  replace h := zq_nx3 (q := 32) h rfl
  refine ⟨zq_k_n 120 h rfl (zq_o_120 _), ?_⟩
  replace h := zq_nx1 (q := 33) h rfl
  refine ⟨zq_k_n 128 h rfl (zq_o_128 _), ?_⟩
  replace h := zq_nx1 (q := 34) h rfl
  refine ⟨zq_k_n 79 h rfl (zq_o_79 _), ?_⟩
  replace h := zq_nx1 (q := 35) h rfl
  exact zq_k_n 4 h rfl (zq_o_4 _)
set_option maxRecDepth 100000 in
theorem dd_Reader_addLaw_36 : decode prog_4_method_10_code 36 = .ok (.ireturn, 1) := by
  have h : List.drop 36 prog_4_method_10_code.data.toList = 0xac :: _ := rfl
  exact zq_k_n 172 h rfl (zq_o_172 _)
def f_Reader_addLaw_0  (a0 : Nat) (a1 : Nat) (a2 : Int32) (h : mH) : Option (Int32 × mH) :=
  bd1 (aI h 0 a1 a2) fun x1 =>
  bd1 (gI h a0 3 8) fun x3 =>
  bd2 (f_Q_hasBit x1 x3 h) fun x7 h5 =>
  if x7 = 0 then
    bd1 (aI h5 0 a1 a2) fun x8 =>
    bd1 (gI h5 a0 3 8) fun x10 =>
    bd1 (sI h5 0 a1 a2 (x8 ||| ((1 : Int32) <<< (x10 &&& 31)))) fun h12 =>
    some ((1 : Int32), h12)
  else
    bd1 (gI h5 a0 3 7) fun x14 =>
    bd1 (kC h5 a0 3) fun _ =>
    bd2 (f_Reader_fail a0 (4 : Int32) x14 h5) fun x20 h18 =>
    if x20 = 0 ∨ x20 = 1 then some (x20, h18) else none
set_option maxRecDepth 20000 in
theorem t_Reader_addLaw_0 {sc : Nat × (Nat → Int32)}  (a0 : Nat) (a1 : Nat) (a2 : Int32) (h : mH) (r : Int32) (h' : mH) (hf : f_Reader_addLaw_0  a0 a1 a2 h = some (r, h')) : G sc y_Reader_addLaw prog_4_method_10_code 3 (some .boolean) 1 22 0 [(0, .ref a0), (1, .ref a1), (2, .int a2)] [] h (some (.int r)) h' := by
  unfold f_Reader_addLaw_0 at hf
  refine g_aload_n (pc := 0) 1 dd_Reader_addLaw_0.1 rfl rfl ?_
  refine g_iload_n (pc := 1) 2 dd_Reader_addLaw_0.2.1 rfl rfl ?_
  obtain ⟨x1, e2, hf⟩ := bd1_e hf
  refine g_iald (pc := 2) dd_Reader_addLaw_0.2.2.1 e2 ?_
  refine g_aload_n (pc := 3) 0 dd_Reader_addLaw_0.2.2.2.1 rfl rfl ?_
  obtain ⟨x3, e4, hf⟩ := bd1_e hf
  refine g_get (pc := 4) (ci := 3) (kk := 8) dd_Reader_addLaw_0.2.2.2.2.1 rfl in_Reader (by decide) wd_44 (gI_spec e4) ?_
  obtain ⟨x7, h5, e6, hf⟩ := bd2_e hf
  refine g_callSN (pc := 7) "QuotaLaws" [.int x1, .int x3] (site_of si_Q_hasBit (by decide) (by decide)) wd_468 wd_469 dd_Reader_addLaw_0.2.2.2.2.2.1 (Nat.le_of_ble_eq_true rfl) (fun z => absurd z si_na_Q_hasBit) (fun z => absurd z si_na_Q_hasBit) (fun z => absurd z si_na_Q_hasBit) (c_Q_hasBit e6) rfl ?_
  refine g_st [.int x7] rfl ?_
  refine g_ifeq (pc := 10) 23 dd_Reader_addLaw_0.2.2.2.2.2.2.1 (by decide) (fun c22 => ?_) (fun c22 => ?_)
  · replace hf := (if_pos c22).symm.trans hf
    refine g_aload_n (pc := 23) 1 dd_Reader_addLaw_0.2.2.2.2.2.2.2.2.2.2.2.2.2.1 rfl rfl ?_
    refine g_iload_n (pc := 24) 2 dd_Reader_addLaw_0.2.2.2.2.2.2.2.2.2.2.2.2.2.2.1 rfl rfl ?_
    refine g_dup2 (pc := 25) dd_Reader_addLaw_0.2.2.2.2.2.2.2.2.2.2.2.2.2.2.2.1 rfl rfl ?_
    obtain ⟨x8, e9, hf⟩ := bd1_e hf
    refine g_iald (pc := 26) dd_Reader_addLaw_0.2.2.2.2.2.2.2.2.2.2.2.2.2.2.2.2.1 e9 ?_
    refine g_iconst (pc := 27) (1 : Int32) dd_Reader_addLaw_0.2.2.2.2.2.2.2.2.2.2.2.2.2.2.2.2.2.1 (by decide) ?_
    refine g_aload_n (pc := 28) 0 dd_Reader_addLaw_0.2.2.2.2.2.2.2.2.2.2.2.2.2.2.2.2.2.2.1 rfl rfl ?_
    obtain ⟨x10, e11, hf⟩ := bd1_e hf
    refine g_get (pc := 29) (ci := 3) (kk := 8) dd_Reader_addLaw_0.2.2.2.2.2.2.2.2.2.2.2.2.2.2.2.2.2.2.2.1 rfl in_Reader (by decide) wd_44 (gI_spec e11) ?_
    refine g_ishl (pc := 32) dd_Reader_addLaw_0.2.2.2.2.2.2.2.2.2.2.2.2.2.2.2.2.2.2.2.2.1 ?_
    refine g_ior (pc := 33) dd_Reader_addLaw_0.2.2.2.2.2.2.2.2.2.2.2.2.2.2.2.2.2.2.2.2.2.1 ?_
    obtain ⟨h12, e13, hf⟩ := bd1_e hf
    refine g_iast (pc := 34) dd_Reader_addLaw_0.2.2.2.2.2.2.2.2.2.2.2.2.2.2.2.2.2.2.2.2.2.2.1 e13 ?_
    refine g_iconst (pc := 35) (1 : Int32) dd_Reader_addLaw_0.2.2.2.2.2.2.2.2.2.2.2.2.2.2.2.2.2.2.2.2.2.2.2 (by decide) ?_
    obtain ⟨rfl, rfl⟩ := ret2 hf
    exact g_zret (pc := 36) rfl rfl dd_Reader_addLaw_36
  · replace hf := (if_neg c22).symm.trans hf
    refine g_aload_n (pc := 13) 0 dd_Reader_addLaw_0.2.2.2.2.2.2.2.1 rfl rfl ?_
    refine g_iconst (pc := 14) (4 : Int32) dd_Reader_addLaw_0.2.2.2.2.2.2.2.2.1 (by decide) ?_
    refine g_aload_n (pc := 15) 0 dd_Reader_addLaw_0.2.2.2.2.2.2.2.2.2.1 rfl rfl ?_
    obtain ⟨x14, e15, hf⟩ := bd1_e hf
    refine g_get (pc := 16) (ci := 3) (kk := 7) dd_Reader_addLaw_0.2.2.2.2.2.2.2.2.2.2.1 rfl in_Reader (by decide) wd_43 (gI_spec e15) ?_
    obtain ⟨u17, e16, hf⟩ := bd1_e hf
    obtain ⟨x20, h18, e19, hf⟩ := bd2_e hf
    refine g_callV (pc := 19) (ci := 3) [.int (4 : Int32), .int x14] (site_of si_Reader_fail (by decide) (by decide)) wd_373 wd_375 wp_4 dd_Reader_addLaw_0.2.2.2.2.2.2.2.2.2.2.2.1 rfl e16 (Nat.le_of_ble_eq_true rfl) (fun z => absurd z si_na_Reader_fail) (fun z => absurd z si_na_Reader_fail) (fun z => absurd z si_na_Reader_fail) (c_Reader_fail e19) rfl ?_
    refine g_st [.int x20] rfl ?_
    by_cases c21 : x20 = 0 ∨ x20 = 1
    · replace hf := (if_pos c21).symm.trans hf
      obtain ⟨rfl, rfl⟩ := ret2 hf
      exact g_zret (pc := 22) rfl (nar_z c21) dd_Reader_addLaw_0.2.2.2.2.2.2.2.2.2.2.2.2.1
    · exact absurd ((if_neg c21).symm.trans hf) (by simp)
def f_Reader_addLaw (a0 : Nat) (a1 : Nat) (a2 : Int32) (h : mH) : Option (Int32 × mH) := f_Reader_addLaw_0 a0 a1 a2 h
theorem c_Reader_addLaw {sc : Nat × (Nat → Int32)} {a0 : Nat} {a1 : Nat} {a2 : Int32} {h : mH} {r : Int32} {h' : mH} (hf : f_Reader_addLaw a0 a1 a2 h = some (r, h')) : MM sc y_Reader_addLaw prog_4_method_10_code 3 (some .boolean) 1 22 [.ref a0, .ref a1, .int a2] h (some (.int r)) h' :=
  mm_of_G si_pn_Reader (Nat.le_of_ble_eq_true rfl) (t_Reader_addLaw_0 _ _ _ _ _ _ hf)
/-! Reader takeOne (LQuotaLaws$Realm;I)Z -/
set_option maxRecDepth 100000 in
theorem dd_Reader_takeOne_0 : (decode prog_4_method_7_code 0 = .ok (.iload_n 2, 1)) ∧ (decode prog_4_method_7_code 1 = .ok (.iconst 3, 1)) ∧ (decode prog_4_method_7_code 2 = .ok (.if_icmp .lt 13, 3)) ∧ (decode prog_4_method_7_code 5 = .ok (.aload_n 0, 1)) ∧ (decode prog_4_method_7_code 6 = .ok (.iconst 5, 1)) ∧ (decode prog_4_method_7_code 7 = .ok (.aload_n 0, 1)) ∧ (decode prog_4_method_7_code 8 = .ok (.getfield 85, 3)) ∧ (decode prog_4_method_7_code 11 = .ok (.invokevirtual 50, 3)) ∧ (decode prog_4_method_7_code 14 = .ok (.ireturn, 1)) ∧ (decode prog_4_method_7_code 15 = .ok (.aload_n 1, 1)) ∧ (decode prog_4_method_7_code 16 = .ok (.dup, 1)) ∧ (decode prog_4_method_7_code 17 = .ok (.getfield 69, 3)) ∧ (decode prog_4_method_7_code 20 = .ok (.iconst 1, 1)) ∧ (decode prog_4_method_7_code 21 = .ok (.iadd, 1)) ∧ (decode prog_4_method_7_code 22 = .ok (.putfield 69, 3)) ∧ (decode prog_4_method_7_code 25 = .ok (.aload_n 0, 1)) ∧ (decode prog_4_method_7_code 26 = .ok (.iconst 0, 1)) ∧ (decode prog_4_method_7_code 27 = .ok (.iconst 5, 1)) ∧ (decode prog_4_method_7_code 28 = .ok (.invokevirtual 95, 3)) ∧ (decode prog_4_method_7_code 31 = .ok (.ifCond .eq 91, 3)) ∧ (decode prog_4_method_7_code 34 = .ok (.aload_n 0, 1)) ∧ (decode prog_4_method_7_code 35 = .ok (.aload_n 1, 1)) ∧ (decode prog_4_method_7_code 36 = .ok (.getfield 126, 3)) ∧ (decode prog_4_method_7_code 39 = .ok (.iload_n 2, 1)) := by
  have h : List.drop 0 prog_4_method_7_code.data.toList = 0x1c :: _ := rfl
  refine ⟨zq_k_n 28 h rfl (zq_o_28 _), ?_⟩
  replace h := zq_nx1 (q := 1) h rfl
  refine ⟨zq_k_n 6 h rfl (zq_o_6 _), ?_⟩
  replace h := zq_nx1 (q := 2) h rfl
  refine ⟨zq_k_s2 161 (fun z => .if_icmp .lt z) 13 h rfl (zq_o_161 _) (by decide +kernel), ?_⟩
  replace h := zq_nx3 (q := 5) h rfl
  refine ⟨zq_k_n 42 h rfl (zq_o_42 _), ?_⟩
  replace h := zq_nx1 (q := 6) h rfl
  refine ⟨zq_k_n 8 h rfl (zq_o_8 _), ?_⟩
  replace h := zq_nx1 (q := 7) h rfl
  refine ⟨zq_k_n 42 h rfl (zq_o_42 _), ?_⟩
  replace h := zq_nx1 (q := 8) h rfl
  refine ⟨zq_k_u2 180 (fun z => .getfield z) 85 h rfl (zq_o_180 _) (by decide +kernel), ?_⟩
  replace h := zq_nx3 (q := 11) h rfl
  refine ⟨zq_k_u2 182 (fun z => .invokevirtual z) 50 h rfl (zq_o_182 _) (by decide +kernel), ?_⟩
  replace h := zq_nx3 (q := 14) h rfl
  refine ⟨zq_k_n 172 h rfl (zq_o_172 _), ?_⟩
  replace h := zq_nx1 (q := 15) h rfl
  refine ⟨zq_k_n 43 h rfl (zq_o_43 _), ?_⟩
  replace h := zq_nx1 (q := 16) h rfl
  refine ⟨zq_k_n 89 h rfl (zq_o_89 _), ?_⟩
  replace h := zq_nx1 (q := 17) h rfl
  refine ⟨zq_k_u2 180 (fun z => .getfield z) 69 h rfl (zq_o_180 _) (by decide +kernel), ?_⟩
  replace h := zq_nx3 (q := 20) h rfl
  refine ⟨zq_k_n 4 h rfl (zq_o_4 _), ?_⟩
  replace h := zq_nx1 (q := 21) h rfl
  refine ⟨zq_k_n 96 h rfl (zq_o_96 _), ?_⟩
  replace h := zq_nx1 (q := 22) h rfl
  refine ⟨zq_k_u2 181 (fun z => .putfield z) 69 h rfl (zq_o_181 _) (by decide +kernel), ?_⟩
  replace h := zq_nx3 (q := 25) h rfl
  refine ⟨zq_k_n 42 h rfl (zq_o_42 _), ?_⟩
  replace h := zq_nx1 (q := 26) h rfl
  refine ⟨zq_k_n 3 h rfl (zq_o_3 _), ?_⟩
  replace h := zq_nx1 (q := 27) h rfl
  refine ⟨zq_k_n 8 h rfl (zq_o_8 _), ?_⟩
  replace h := zq_nx1 (q := 28) h rfl
  refine ⟨zq_k_u2 182 (fun z => .invokevirtual z) 95 h rfl (zq_o_182 _) (by decide +kernel), ?_⟩
  replace h := zq_nx3 (q := 31) h rfl
  refine ⟨zq_k_s2 153 (fun z => .ifCond .eq z) 91 h rfl (zq_o_153 _) (by decide +kernel), ?_⟩
  replace h := zq_nx3 (q := 34) h rfl
  refine ⟨zq_k_n 42 h rfl (zq_o_42 _), ?_⟩
  replace h := zq_nx1 (q := 35) h rfl
  refine ⟨zq_k_n 43 h rfl (zq_o_43 _), ?_⟩
  replace h := zq_nx1 (q := 36) h rfl
  refine ⟨zq_k_u2 180 (fun z => .getfield z) 126 h rfl (zq_o_180 _) (by decide +kernel), ?_⟩
  replace h := zq_nx3 (q := 39) h rfl
  exact zq_k_n 28 h rfl (zq_o_28 _)
set_option maxRecDepth 100000 in
theorem dd_Reader_takeOne_40 : (decode prog_4_method_7_code 40 = .ok (.invokevirtual 101, 3)) ∧ (decode prog_4_method_7_code 43 = .ok (.ifCond .eq 79, 3)) ∧ (decode prog_4_method_7_code 46 = .ok (.aload_n 0, 1)) ∧ (decode prog_4_method_7_code 47 = .ok (.iconst 0, 1)) ∧ (decode prog_4_method_7_code 48 = .ok (.iconst 3, 1)) ∧ (decode prog_4_method_7_code 49 = .ok (.invokevirtual 95, 3)) ∧ (decode prog_4_method_7_code 52 = .ok (.ifCond .eq 70, 3)) ∧ (decode prog_4_method_7_code 55 = .ok (.aload_n 0, 1)) ∧ (decode prog_4_method_7_code 56 = .ok (.aload_n 1, 1)) ∧ (decode prog_4_method_7_code 57 = .ok (.getfield 129, 3)) ∧ (decode prog_4_method_7_code 60 = .ok (.iload_n 2, 1)) ∧ (decode prog_4_method_7_code 61 = .ok (.invokevirtual 101, 3)) ∧ (decode prog_4_method_7_code 64 = .ok (.ifCond .eq 58, 3)) ∧ (decode prog_4_method_7_code 67 = .ok (.aload_n 0, 1)) ∧ (decode prog_4_method_7_code 68 = .ok (.iconst 0, 1)) ∧ (decode prog_4_method_7_code 69 = .ok (.bipush 10, 2)) ∧ (decode prog_4_method_7_code 71 = .ok (.invokevirtual 95, 3)) ∧ (decode prog_4_method_7_code 74 = .ok (.ifCond .eq 48, 3)) ∧ (decode prog_4_method_7_code 77 = .ok (.aload_n 0, 1)) ∧ (decode prog_4_method_7_code 78 = .ok (.aload_n 1, 1)) ∧ (decode prog_4_method_7_code 79 = .ok (.getfield 132, 3)) ∧ (decode prog_4_method_7_code 82 = .ok (.iload_n 2, 1)) ∧ (decode prog_4_method_7_code 83 = .ok (.invokevirtual 101, 3)) ∧ (decode prog_4_method_7_code 86 = .ok (.ifCond .eq 36, 3)) := by
  have h : List.drop 40 prog_4_method_7_code.data.toList = 0xb6 :: _ := rfl
  refine ⟨zq_k_u2 182 (fun z => .invokevirtual z) 101 h rfl (zq_o_182 _) (by decide +kernel), ?_⟩
  replace h := zq_nx3 (q := 43) h rfl
  refine ⟨zq_k_s2 153 (fun z => .ifCond .eq z) 79 h rfl (zq_o_153 _) (by decide +kernel), ?_⟩
  replace h := zq_nx3 (q := 46) h rfl
  refine ⟨zq_k_n 42 h rfl (zq_o_42 _), ?_⟩
  replace h := zq_nx1 (q := 47) h rfl
  refine ⟨zq_k_n 3 h rfl (zq_o_3 _), ?_⟩
  replace h := zq_nx1 (q := 48) h rfl
  refine ⟨zq_k_n 6 h rfl (zq_o_6 _), ?_⟩
  replace h := zq_nx1 (q := 49) h rfl
  refine ⟨zq_k_u2 182 (fun z => .invokevirtual z) 95 h rfl (zq_o_182 _) (by decide +kernel), ?_⟩
  replace h := zq_nx3 (q := 52) h rfl
  refine ⟨zq_k_s2 153 (fun z => .ifCond .eq z) 70 h rfl (zq_o_153 _) (by decide +kernel), ?_⟩
  replace h := zq_nx3 (q := 55) h rfl
  refine ⟨zq_k_n 42 h rfl (zq_o_42 _), ?_⟩
  replace h := zq_nx1 (q := 56) h rfl
  refine ⟨zq_k_n 43 h rfl (zq_o_43 _), ?_⟩
  replace h := zq_nx1 (q := 57) h rfl
  refine ⟨zq_k_u2 180 (fun z => .getfield z) 129 h rfl (zq_o_180 _) (by decide +kernel), ?_⟩
  replace h := zq_nx3 (q := 60) h rfl
  refine ⟨zq_k_n 28 h rfl (zq_o_28 _), ?_⟩
  replace h := zq_nx1 (q := 61) h rfl
  refine ⟨zq_k_u2 182 (fun z => .invokevirtual z) 101 h rfl (zq_o_182 _) (by decide +kernel), ?_⟩
  replace h := zq_nx3 (q := 64) h rfl
  refine ⟨zq_k_s2 153 (fun z => .ifCond .eq z) 58 h rfl (zq_o_153 _) (by decide +kernel), ?_⟩
  replace h := zq_nx3 (q := 67) h rfl
  refine ⟨zq_k_n 42 h rfl (zq_o_42 _), ?_⟩
  replace h := zq_nx1 (q := 68) h rfl
  refine ⟨zq_k_n 3 h rfl (zq_o_3 _), ?_⟩
  replace h := zq_nx1 (q := 69) h rfl
  refine ⟨zq_k_s1 16 (fun z => .bipush z) 10 h rfl (zq_o_16 _) (by decide +kernel), ?_⟩
  replace h := zq_nx2 (q := 71) h rfl
  refine ⟨zq_k_u2 182 (fun z => .invokevirtual z) 95 h rfl (zq_o_182 _) (by decide +kernel), ?_⟩
  replace h := zq_nx3 (q := 74) h rfl
  refine ⟨zq_k_s2 153 (fun z => .ifCond .eq z) 48 h rfl (zq_o_153 _) (by decide +kernel), ?_⟩
  replace h := zq_nx3 (q := 77) h rfl
  refine ⟨zq_k_n 42 h rfl (zq_o_42 _), ?_⟩
  replace h := zq_nx1 (q := 78) h rfl
  refine ⟨zq_k_n 43 h rfl (zq_o_43 _), ?_⟩
  replace h := zq_nx1 (q := 79) h rfl
  refine ⟨zq_k_u2 180 (fun z => .getfield z) 132 h rfl (zq_o_180 _) (by decide +kernel), ?_⟩
  replace h := zq_nx3 (q := 82) h rfl
  refine ⟨zq_k_n 28 h rfl (zq_o_28 _), ?_⟩
  replace h := zq_nx1 (q := 83) h rfl
  refine ⟨zq_k_u2 182 (fun z => .invokevirtual z) 101 h rfl (zq_o_182 _) (by decide +kernel), ?_⟩
  replace h := zq_nx3 (q := 86) h rfl
  exact zq_k_s2 153 (fun z => .ifCond .eq z) 36 h rfl (zq_o_153 _) (by decide +kernel)
set_option maxRecDepth 100000 in
theorem dd_Reader_takeOne_89 : (decode prog_4_method_7_code 89 = .ok (.aload_n 0, 1)) ∧ (decode prog_4_method_7_code 90 = .ok (.iconst 0, 1)) ∧ (decode prog_4_method_7_code 91 = .ok (.bipush 99, 2)) ∧ (decode prog_4_method_7_code 93 = .ok (.invokevirtual 95, 3)) ∧ (decode prog_4_method_7_code 96 = .ok (.ifCond .eq 26, 3)) ∧ (decode prog_4_method_7_code 99 = .ok (.aload_n 0, 1)) ∧ (decode prog_4_method_7_code 100 = .ok (.aload_n 1, 1)) ∧ (decode prog_4_method_7_code 101 = .ok (.getfield 135, 3)) ∧ (decode prog_4_method_7_code 104 = .ok (.iload_n 2, 1)) ∧ (decode prog_4_method_7_code 105 = .ok (.invokevirtual 101, 3)) ∧ (decode prog_4_method_7_code 108 = .ok (.ifCond .eq 14, 3)) ∧ (decode prog_4_method_7_code 111 = .ok (.aload_n 0, 1)) ∧ (decode prog_4_method_7_code 112 = .ok (.invokevirtual 36, 3)) ∧ (decode prog_4_method_7_code 115 = .ok (.ifCond .eq 7, 3)) ∧ (decode prog_4_method_7_code 118 = .ok (.iconst 1, 1)) ∧ (decode prog_4_method_7_code 119 = .ok (.goto 4, 3)) ∧ (decode prog_4_method_7_code 122 = .ok (.iconst 0, 1)) ∧ (decode prog_4_method_7_code 123 = .ok (.istore_n 3, 1)) ∧ (decode prog_4_method_7_code 124 = .ok (.iconst 0, 1)) ∧ (decode prog_4_method_7_code 125 = .ok (.istore 4, 2)) ∧ (decode prog_4_method_7_code 127 = .ok (.iload 4, 2)) ∧ (decode prog_4_method_7_code 129 = .ok (.iconst 5, 1)) ∧ (decode prog_4_method_7_code 130 = .ok (.if_icmp .gt 55, 3)) ∧ (decode prog_4_method_7_code 133 = .ok (.iload_n 3, 1)) := by
  have h : List.drop 89 prog_4_method_7_code.data.toList = 0x2a :: _ := rfl
  refine ⟨zq_k_n 42 h rfl (zq_o_42 _), ?_⟩
  replace h := zq_nx1 (q := 90) h rfl
  refine ⟨zq_k_n 3 h rfl (zq_o_3 _), ?_⟩
  replace h := zq_nx1 (q := 91) h rfl
  refine ⟨zq_k_s1 16 (fun z => .bipush z) 99 h rfl (zq_o_16 _) (by decide +kernel), ?_⟩
  replace h := zq_nx2 (q := 93) h rfl
  refine ⟨zq_k_u2 182 (fun z => .invokevirtual z) 95 h rfl (zq_o_182 _) (by decide +kernel), ?_⟩
  replace h := zq_nx3 (q := 96) h rfl
  refine ⟨zq_k_s2 153 (fun z => .ifCond .eq z) 26 h rfl (zq_o_153 _) (by decide +kernel), ?_⟩
  replace h := zq_nx3 (q := 99) h rfl
  refine ⟨zq_k_n 42 h rfl (zq_o_42 _), ?_⟩
  replace h := zq_nx1 (q := 100) h rfl
  refine ⟨zq_k_n 43 h rfl (zq_o_43 _), ?_⟩
  replace h := zq_nx1 (q := 101) h rfl
  refine ⟨zq_k_u2 180 (fun z => .getfield z) 135 h rfl (zq_o_180 _) (by decide +kernel), ?_⟩
  replace h := zq_nx3 (q := 104) h rfl
  refine ⟨zq_k_n 28 h rfl (zq_o_28 _), ?_⟩
  replace h := zq_nx1 (q := 105) h rfl
  refine ⟨zq_k_u2 182 (fun z => .invokevirtual z) 101 h rfl (zq_o_182 _) (by decide +kernel), ?_⟩
  replace h := zq_nx3 (q := 108) h rfl
  refine ⟨zq_k_s2 153 (fun z => .ifCond .eq z) 14 h rfl (zq_o_153 _) (by decide +kernel), ?_⟩
  replace h := zq_nx3 (q := 111) h rfl
  refine ⟨zq_k_n 42 h rfl (zq_o_42 _), ?_⟩
  replace h := zq_nx1 (q := 112) h rfl
  refine ⟨zq_k_u2 182 (fun z => .invokevirtual z) 36 h rfl (zq_o_182 _) (by decide +kernel), ?_⟩
  replace h := zq_nx3 (q := 115) h rfl
  refine ⟨zq_k_s2 153 (fun z => .ifCond .eq z) 7 h rfl (zq_o_153 _) (by decide +kernel), ?_⟩
  replace h := zq_nx3 (q := 118) h rfl
  refine ⟨zq_k_n 4 h rfl (zq_o_4 _), ?_⟩
  replace h := zq_nx1 (q := 119) h rfl
  refine ⟨zq_k_s2 167 (fun z => .goto z) 4 h rfl (zq_o_167 _) (by decide +kernel), ?_⟩
  replace h := zq_nx3 (q := 122) h rfl
  refine ⟨zq_k_n 3 h rfl (zq_o_3 _), ?_⟩
  replace h := zq_nx1 (q := 123) h rfl
  refine ⟨zq_k_n 62 h rfl (zq_o_62 _), ?_⟩
  replace h := zq_nx1 (q := 124) h rfl
  refine ⟨zq_k_n 3 h rfl (zq_o_3 _), ?_⟩
  replace h := zq_nx1 (q := 125) h rfl
  refine ⟨zq_k_u1 54 (fun z => .istore z) 4 h rfl (zq_o_54 _) (by decide +kernel), ?_⟩
  replace h := zq_nx2 (q := 127) h rfl
  refine ⟨zq_k_u1 21 (fun z => .iload z) 4 h rfl (zq_o_21 _) (by decide +kernel), ?_⟩
  replace h := zq_nx2 (q := 129) h rfl
  refine ⟨zq_k_n 8 h rfl (zq_o_8 _), ?_⟩
  replace h := zq_nx1 (q := 130) h rfl
  refine ⟨zq_k_s2 163 (fun z => .if_icmp .gt z) 55 h rfl (zq_o_163 _) (by decide +kernel), ?_⟩
  replace h := zq_nx3 (q := 133) h rfl
  exact zq_k_n 29 h rfl (zq_o_29 _)
set_option maxRecDepth 100000 in
theorem dd_Reader_takeOne_134 : (decode prog_4_method_7_code 134 = .ok (.ifCond .eq 51, 3)) ∧ (decode prog_4_method_7_code 137 = .ok (.aload_n 0, 1)) ∧ (decode prog_4_method_7_code 138 = .ok (.getfield 40, 3)) ∧ (decode prog_4_method_7_code 141 = .ok (.iconst 2, 1)) ∧ (decode prog_4_method_7_code 142 = .ok (.if_icmp .ne 43, 3)) ∧ (decode prog_4_method_7_code 145 = .ok (.aload_n 0, 1)) ∧ (decode prog_4_method_7_code 146 = .ok (.iconst 0, 1)) ∧ (decode prog_4_method_7_code 147 = .ok (.iconst 4, 1)) ∧ (decode prog_4_method_7_code 148 = .ok (.invokevirtual 120, 3)) ∧ (decode prog_4_method_7_code 151 = .ok (.ifCond .eq 26, 3)) ∧ (decode prog_4_method_7_code 154 = .ok (.aload_n 0, 1)) ∧ (decode prog_4_method_7_code 155 = .ok (.aload_n 1, 1)) ∧ (decode prog_4_method_7_code 156 = .ok (.getfield 138, 3)) ∧ (decode prog_4_method_7_code 159 = .ok (.iload_n 2, 1)) ∧ (decode prog_4_method_7_code 160 = .ok (.invokevirtual 141, 3)) ∧ (decode prog_4_method_7_code 163 = .ok (.ifCond .eq 14, 3)) ∧ (decode prog_4_method_7_code 166 = .ok (.aload_n 0, 1)) ∧ (decode prog_4_method_7_code 167 = .ok (.invokevirtual 36, 3)) ∧ (decode prog_4_method_7_code 170 = .ok (.ifCond .eq 7, 3)) ∧ (decode prog_4_method_7_code 173 = .ok (.iconst 1, 1)) ∧ (decode prog_4_method_7_code 174 = .ok (.goto 4, 3)) ∧ (decode prog_4_method_7_code 177 = .ok (.iconst 0, 1)) ∧ (decode prog_4_method_7_code 178 = .ok (.istore_n 3, 1)) ∧ (decode prog_4_method_7_code 179 = .ok (.iinc 4 1, 3)) := by
  have h : List.drop 134 prog_4_method_7_code.data.toList = 0x99 :: _ := rfl
  refine ⟨zq_k_s2 153 (fun z => .ifCond .eq z) 51 h rfl (zq_o_153 _) (by decide +kernel), ?_⟩
  replace h := zq_nx3 (q := 137) h rfl
  refine ⟨zq_k_n 42 h rfl (zq_o_42 _), ?_⟩
  replace h := zq_nx1 (q := 138) h rfl
  refine ⟨zq_k_u2 180 (fun z => .getfield z) 40 h rfl (zq_o_180 _) (by decide +kernel), ?_⟩
  replace h := zq_nx3 (q := 141) h rfl
  refine ⟨zq_k_n 5 h rfl (zq_o_5 _), ?_⟩
  replace h := zq_nx1 (q := 142) h rfl
  refine ⟨zq_k_s2 160 (fun z => .if_icmp .ne z) 43 h rfl (zq_o_160 _) (by decide +kernel), ?_⟩
  replace h := zq_nx3 (q := 145) h rfl
  refine ⟨zq_k_n 42 h rfl (zq_o_42 _), ?_⟩
  replace h := zq_nx1 (q := 146) h rfl
  refine ⟨zq_k_n 3 h rfl (zq_o_3 _), ?_⟩
  replace h := zq_nx1 (q := 147) h rfl
  refine ⟨zq_k_n 7 h rfl (zq_o_7 _), ?_⟩
  replace h := zq_nx1 (q := 148) h rfl
  refine ⟨zq_k_u2 182 (fun z => .invokevirtual z) 120 h rfl (zq_o_182 _) (by decide +kernel), ?_⟩
  replace h := zq_nx3 (q := 151) h rfl
  refine ⟨zq_k_s2 153 (fun z => .ifCond .eq z) 26 h rfl (zq_o_153 _) (by decide +kernel), ?_⟩
  replace h := zq_nx3 (q := 154) h rfl
  refine ⟨zq_k_n 42 h rfl (zq_o_42 _), ?_⟩
  replace h := zq_nx1 (q := 155) h rfl
  refine ⟨zq_k_n 43 h rfl (zq_o_43 _), ?_⟩
  replace h := zq_nx1 (q := 156) h rfl
  refine ⟨zq_k_u2 180 (fun z => .getfield z) 138 h rfl (zq_o_180 _) (by decide +kernel), ?_⟩
  replace h := zq_nx3 (q := 159) h rfl
  refine ⟨zq_k_n 28 h rfl (zq_o_28 _), ?_⟩
  replace h := zq_nx1 (q := 160) h rfl
  refine ⟨zq_k_u2 182 (fun z => .invokevirtual z) 141 h rfl (zq_o_182 _) (by decide +kernel), ?_⟩
  replace h := zq_nx3 (q := 163) h rfl
  refine ⟨zq_k_s2 153 (fun z => .ifCond .eq z) 14 h rfl (zq_o_153 _) (by decide +kernel), ?_⟩
  replace h := zq_nx3 (q := 166) h rfl
  refine ⟨zq_k_n 42 h rfl (zq_o_42 _), ?_⟩
  replace h := zq_nx1 (q := 167) h rfl
  refine ⟨zq_k_u2 182 (fun z => .invokevirtual z) 36 h rfl (zq_o_182 _) (by decide +kernel), ?_⟩
  replace h := zq_nx3 (q := 170) h rfl
  refine ⟨zq_k_s2 153 (fun z => .ifCond .eq z) 7 h rfl (zq_o_153 _) (by decide +kernel), ?_⟩
  replace h := zq_nx3 (q := 173) h rfl
  refine ⟨zq_k_n 4 h rfl (zq_o_4 _), ?_⟩
  replace h := zq_nx1 (q := 174) h rfl
  refine ⟨zq_k_s2 167 (fun z => .goto z) 4 h rfl (zq_o_167 _) (by decide +kernel), ?_⟩
  replace h := zq_nx3 (q := 177) h rfl
  refine ⟨zq_k_n 3 h rfl (zq_o_3 _), ?_⟩
  replace h := zq_nx1 (q := 178) h rfl
  refine ⟨zq_k_n 62 h rfl (zq_o_62 _), ?_⟩
  replace h := zq_nx1 (q := 179) h rfl
  exact zq_k_iinc 4 1 h rfl (zq_o_132 _) (by decide +kernel) (by decide +kernel)
set_option maxRecDepth 100000 in
theorem dd_Reader_takeOne_182 : (decode prog_4_method_7_code 182 = .ok (.goto (-55), 3)) ∧ (decode prog_4_method_7_code 185 = .ok (.iload_n 3, 1)) ∧ (decode prog_4_method_7_code 186 = .ok (.ifCond .eq 14, 3)) ∧ (decode prog_4_method_7_code 189 = .ok (.aload_n 0, 1)) ∧ (decode prog_4_method_7_code 190 = .ok (.invokevirtual 117, 3)) ∧ (decode prog_4_method_7_code 193 = .ok (.ifCond .eq 7, 3)) ∧ (decode prog_4_method_7_code 196 = .ok (.iconst 1, 1)) ∧ (decode prog_4_method_7_code 197 = .ok (.goto 4, 3)) ∧ (decode prog_4_method_7_code 200 = .ok (.iconst 0, 1)) ∧ (decode prog_4_method_7_code 201 = .ok (.ireturn, 1)) := by
  have h : List.drop 182 prog_4_method_7_code.data.toList = 0xa7 :: _ := rfl
  refine ⟨zq_k_s2 167 (fun z => .goto z) (-55) h rfl (zq_o_167 _) (by decide +kernel), ?_⟩
  replace h := zq_nx3 (q := 185) h rfl
  refine ⟨zq_k_n 29 h rfl (zq_o_29 _), ?_⟩
  replace h := zq_nx1 (q := 186) h rfl
  refine ⟨zq_k_s2 153 (fun z => .ifCond .eq z) 14 h rfl (zq_o_153 _) (by decide +kernel), ?_⟩
  replace h := zq_nx3 (q := 189) h rfl
  refine ⟨zq_k_n 42 h rfl (zq_o_42 _), ?_⟩
  replace h := zq_nx1 (q := 190) h rfl
  refine ⟨zq_k_u2 182 (fun z => .invokevirtual z) 117 h rfl (zq_o_182 _) (by decide +kernel), ?_⟩
  replace h := zq_nx3 (q := 193) h rfl
  refine ⟨zq_k_s2 153 (fun z => .ifCond .eq z) 7 h rfl (zq_o_153 _) (by decide +kernel), ?_⟩
  replace h := zq_nx3 (q := 196) h rfl
  refine ⟨zq_k_n 4 h rfl (zq_o_4 _), ?_⟩
  replace h := zq_nx1 (q := 197) h rfl
  refine ⟨zq_k_s2 167 (fun z => .goto z) 4 h rfl (zq_o_167 _) (by decide +kernel), ?_⟩
  replace h := zq_nx3 (q := 200) h rfl
  refine ⟨zq_k_n 3 h rfl (zq_o_3 _), ?_⟩
  replace h := zq_nx1 (q := 201) h rfl
  exact zq_k_n 172 h rfl (zq_o_172 _)
def f_Reader_takeOne_200   (h : mH) : Option (Int32 × mH) :=
  some ((0 : Int32), h)
set_option maxRecDepth 20000 in
theorem t_Reader_takeOne_200 {sc : Nat × (Nat → Int32)}   (h : mH) (r : Int32) (h' : mH) (hf : f_Reader_takeOne_200   h = some (r, h')) : G sc y_Reader_takeOne prog_4_method_7_code 5 (some .boolean) 3 66 200 [] [] h (some (.int r)) h' := by
  unfold f_Reader_takeOne_200 at hf
  refine g_iconst (pc := 200) (0 : Int32) dd_Reader_takeOne_182.2.2.2.2.2.2.2.2.1 (by decide) ?_
  obtain ⟨rfl, rfl⟩ := ret2 hf
  exact g_zret (pc := 201) rfl rfl dd_Reader_takeOne_182.2.2.2.2.2.2.2.2.2
def f_Reader_takeOne_185  (b0 : Nat) (b3 : Int32) (h : mH) : Option (Int32 × mH) :=
  if b3 = 0 then
    f_Reader_takeOne_200  h
  else
    bd1 (kC h b0 3) fun _ =>
    bd2 (f_Reader_isStop b0 h) fun x105 h103 =>
    if x105 = 0 then
      f_Reader_takeOne_200  h103
    else
      some ((1 : Int32), h103)
set_option maxRecDepth 20000 in
theorem t_Reader_takeOne_185 {sc : Nat × (Nat → Int32)}  (b0 : Nat) (b3 : Int32) (h : mH) (r : Int32) (h' : mH) (hf : f_Reader_takeOne_185  b0 b3 h = some (r, h')) : G sc y_Reader_takeOne prog_4_method_7_code 5 (some .boolean) 3 66 185 [(0, .ref b0), (3, .int b3)] [] h (some (.int r)) h' := by
  unfold f_Reader_takeOne_185 at hf
  refine g_iload_n (pc := 185) 1 dd_Reader_takeOne_182.2.1 rfl rfl ?_
  refine g_ifeq (pc := 186) 200 dd_Reader_takeOne_182.2.2.1 (by decide) (fun c107 => ?_) (fun c107 => ?_)
  · replace hf := (if_pos c107).symm.trans hf
    refine g_lv [] rfl ?_
    exact t_Reader_takeOne_200  _ _ _  hf
  · replace hf := (if_neg c107).symm.trans hf
    refine g_aload_n (pc := 189) 0 dd_Reader_takeOne_182.2.2.2.1 rfl rfl ?_
    obtain ⟨u102, e101, hf⟩ := bd1_e hf
    obtain ⟨x105, h103, e104, hf⟩ := bd2_e hf
    refine g_callV (pc := 190) (ci := 3) [] (site_of si_Reader_isStop (by decide) (by decide)) wd_455 wd_457 wp_12 dd_Reader_takeOne_182.2.2.2.2.1 rfl e101 (Nat.le_of_ble_eq_true rfl) (fun z => absurd z si_na_Reader_isStop) (fun z => absurd z si_na_Reader_isStop) (fun z => absurd z si_na_Reader_isStop) (c_Reader_isStop e104) rfl ?_
    refine g_st [.int x105] rfl ?_
    refine g_ifeq (pc := 193) 200 dd_Reader_takeOne_182.2.2.2.2.2.1 (by decide) (fun c106 => ?_) (fun c106 => ?_)
    · replace hf := (if_pos c106).symm.trans hf
      refine g_lv [] rfl ?_
      exact t_Reader_takeOne_200  _ _ _  hf
    · replace hf := (if_neg c106).symm.trans hf
      refine g_iconst (pc := 196) (1 : Int32) dd_Reader_takeOne_182.2.2.2.2.2.2.1 (by decide) ?_
      refine g_goto (pc := 197) 201 dd_Reader_takeOne_182.2.2.2.2.2.2.2.1 (by decide) ?_
      obtain ⟨rfl, rfl⟩ := ret2 hf
      exact g_zret (pc := 201) rfl rfl dd_Reader_takeOne_182.2.2.2.2.2.2.2.2.2
def f_Reader_takeOne_178 (rec127 : Nat → Nat → Int32 → Int32 → Int32 → mH → Option (Int32 × mH)) (b0 : Nat) (b1 : Nat) (b2 : Int32) (b4 : Int32) (s0 : Int32) (h : mH) : Option (Int32 × mH) :=
  rec127 b0 b1 b2 s0 (b4 + (1 : Int32)) h
set_option maxRecDepth 20000 in
theorem t_Reader_takeOne_178 {sc : Nat × (Nat → Int32)} (rec127 : Nat → Nat → Int32 → Int32 → Int32 → mH → Option (Int32 × mH)) (hrec127 : ∀ (b0 : Nat) (b1 : Nat) (b2 : Int32) (b3 : Int32) (b4 : Int32) (h : mH) (r : Int32) (h' : mH), rec127 b0 b1 b2 b3 b4 h = some (r, h') → G sc y_Reader_takeOne prog_4_method_7_code 5 (some .boolean) 3 66 127 [(0, .ref b0), (1, .ref b1), (2, .int b2), (3, .int b3), (4, .int b4)] [] h (some (.int r)) h') (b0 : Nat) (b1 : Nat) (b2 : Int32) (b4 : Int32) (s0 : Int32) (h : mH) (r : Int32) (h' : mH) (hf : f_Reader_takeOne_178 rec127 b0 b1 b2 b4 s0 h = some (r, h')) : G sc y_Reader_takeOne prog_4_method_7_code 5 (some .boolean) 3 66 178 [(0, .ref b0), (1, .ref b1), (2, .int b2), (4, .int b4)] [.int s0] h (some (.int r)) h' := by
  unfold f_Reader_takeOne_178 at hf
  refine g_istore_n (pc := 178) [(3, .int s0), (0, .ref b0), (1, .ref b1), (2, .int b2), (4, .int b4)] dd_Reader_takeOne_134.2.2.2.2.2.2.2.2.2.2.2.2.2.2.2.2.2.2.2.2.2.2.1 rfl (Nat.le_of_ble_eq_true rfl) rfl ?_
  refine g_iinc (pc := 179) 4 (b4 + (1 : Int32)) [(4, .int (b4 + (1 : Int32))), (3, .int s0), (0, .ref b0), (1, .ref b1), (2, .int b2)] dd_Reader_takeOne_134.2.2.2.2.2.2.2.2.2.2.2.2.2.2.2.2.2.2.2.2.2.2.2 rfl rfl (Nat.le_of_ble_eq_true rfl) rfl ?_
  refine g_goto (pc := 182) 127 dd_Reader_takeOne_182.1 (by decide) ?_
  refine g_lv [2, 3, 4, 1, 0] rfl ?_
  exact hrec127 _ _ _ _ _ _ _ _  hf
def f_Reader_takeOne_177 (rec127 : Nat → Nat → Int32 → Int32 → Int32 → mH → Option (Int32 × mH)) (b0 : Nat) (b1 : Nat) (b2 : Int32) (b4 : Int32) (h : mH) : Option (Int32 × mH) :=
  f_Reader_takeOne_178 rec127 b0 b1 b2 b4 (0 : Int32) h
set_option maxRecDepth 20000 in
theorem t_Reader_takeOne_177 {sc : Nat × (Nat → Int32)} (rec127 : Nat → Nat → Int32 → Int32 → Int32 → mH → Option (Int32 × mH)) (hrec127 : ∀ (b0 : Nat) (b1 : Nat) (b2 : Int32) (b3 : Int32) (b4 : Int32) (h : mH) (r : Int32) (h' : mH), rec127 b0 b1 b2 b3 b4 h = some (r, h') → G sc y_Reader_takeOne prog_4_method_7_code 5 (some .boolean) 3 66 127 [(0, .ref b0), (1, .ref b1), (2, .int b2), (3, .int b3), (4, .int b4)] [] h (some (.int r)) h') (b0 : Nat) (b1 : Nat) (b2 : Int32) (b4 : Int32) (h : mH) (r : Int32) (h' : mH) (hf : f_Reader_takeOne_177 rec127 b0 b1 b2 b4 h = some (r, h')) : G sc y_Reader_takeOne prog_4_method_7_code 5 (some .boolean) 3 66 177 [(0, .ref b0), (1, .ref b1), (2, .int b2), (4, .int b4)] [] h (some (.int r)) h' := by
  unfold f_Reader_takeOne_177 at hf
  refine g_iconst (pc := 177) (0 : Int32) dd_Reader_takeOne_134.2.2.2.2.2.2.2.2.2.2.2.2.2.2.2.2.2.2.2.2.2.1 (by decide) ?_
  refine g_lv [0, 1, 2, 3] rfl ?_
  exact t_Reader_takeOne_178 rec127 hrec127 _ _ _ _ _ _ _ _  hf
def f_Reader_takeOne_127b (rec127 : Nat → Nat → Int32 → Int32 → Int32 → mH → Option (Int32 × mH)) (b0 : Nat) (b1 : Nat) (b2 : Int32) (b3 : Int32) (b4 : Int32) (h : mH) : Option (Int32 × mH) :=
  if (5 : Int32) < b4 then
    f_Reader_takeOne_185  b0 b3 h
  else
    if b3 = 0 then
      f_Reader_takeOne_185  b0 b3 h
    else
      bd1 (gI h b0 3 6) fun x76 =>
      if x76 = (2 : Int32) then
        bd1 (kC h b0 3) fun _ =>
        bd2 (f_Reader_isBounded b0 (0 : Int32) (4 : Int32) h) fun x82 h80 =>
        if x82 = 0 then
          f_Reader_takeOne_177 rec127 b0 b1 b2 b4 h80
        else
          bd1 (gR h80 b1 4 15) fun x83 =>
          bd1 (kC h80 b0 3) fun _ =>
          bd2 (f_Reader_addLaw b0 x83 b2 h80) fun x89 h87 =>
          if x89 = 0 then
            f_Reader_takeOne_177 rec127 b0 b1 b2 b4 h87
          else
            bd1 (kC h87 b0 3) fun _ =>
            bd2 (f_Reader_takeToken b0 h87) fun x94 h92 =>
            if x94 = 0 then
              f_Reader_takeOne_177 rec127 b0 b1 b2 b4 h92
            else
              f_Reader_takeOne_178 rec127 b0 b1 b2 b4 (1 : Int32) h92
      else
        f_Reader_takeOne_185  b0 b3 h
set_option maxRecDepth 20000 in
theorem t_Reader_takeOne_127b {sc : Nat × (Nat → Int32)} (rec127 : Nat → Nat → Int32 → Int32 → Int32 → mH → Option (Int32 × mH)) (hrec127 : ∀ (b0 : Nat) (b1 : Nat) (b2 : Int32) (b3 : Int32) (b4 : Int32) (h : mH) (r : Int32) (h' : mH), rec127 b0 b1 b2 b3 b4 h = some (r, h') → G sc y_Reader_takeOne prog_4_method_7_code 5 (some .boolean) 3 66 127 [(0, .ref b0), (1, .ref b1), (2, .int b2), (3, .int b3), (4, .int b4)] [] h (some (.int r)) h') (b0 : Nat) (b1 : Nat) (b2 : Int32) (b3 : Int32) (b4 : Int32) (h : mH) (r : Int32) (h' : mH) (hf : f_Reader_takeOne_127b rec127 b0 b1 b2 b3 b4 h = some (r, h')) : G sc y_Reader_takeOne prog_4_method_7_code 5 (some .boolean) 3 66 127 [(0, .ref b0), (1, .ref b1), (2, .int b2), (3, .int b3), (4, .int b4)] [] h (some (.int r)) h' := by
  unfold f_Reader_takeOne_127b at hf
  refine g_iload (pc := 127) 4 dd_Reader_takeOne_89.2.2.2.2.2.2.2.2.2.2.2.2.2.2.2.2.2.2.2.2.1 rfl ?_
  refine g_iconst (pc := 129) (5 : Int32) dd_Reader_takeOne_89.2.2.2.2.2.2.2.2.2.2.2.2.2.2.2.2.2.2.2.2.2.1 (by decide) ?_
  refine g_icmpgt (pc := 130) 185 dd_Reader_takeOne_89.2.2.2.2.2.2.2.2.2.2.2.2.2.2.2.2.2.2.2.2.2.2.1 (by decide) (fun c100 => ?_) (fun c100 => ?_)
  · replace hf := (if_pos c100).symm.trans hf
    refine g_lv [0, 3] rfl ?_
    exact t_Reader_takeOne_185  _ _ _ _ _  hf
  · replace hf := (if_neg c100).symm.trans hf
    refine g_iload_n (pc := 133) 3 dd_Reader_takeOne_89.2.2.2.2.2.2.2.2.2.2.2.2.2.2.2.2.2.2.2.2.2.2.2 rfl rfl ?_
    refine g_ifeq (pc := 134) 185 dd_Reader_takeOne_134.1 (by decide) (fun c99 => ?_) (fun c99 => ?_)
    · replace hf := (if_pos c99).symm.trans hf
      refine g_lv [0, 3] rfl ?_
      exact t_Reader_takeOne_185  _ _ _ _ _  hf
    · replace hf := (if_neg c99).symm.trans hf
      refine g_aload_n (pc := 137) 0 dd_Reader_takeOne_134.2.1 rfl rfl ?_
      obtain ⟨x76, e77, hf⟩ := bd1_e hf
      refine g_get (pc := 138) (ci := 3) (kk := 6) dd_Reader_takeOne_134.2.2.1 rfl in_Reader (by decide) wd_42 (gI_spec e77) ?_
      refine g_iconst (pc := 141) (2 : Int32) dd_Reader_takeOne_134.2.2.2.1 (by decide) ?_
      refine g_icmpne (pc := 142) 185 dd_Reader_takeOne_134.2.2.2.2.1 (by decide) (fun c98 => ?_) (fun c98 => ?_)
      · replace hf := (if_neg c98).symm.trans hf
        refine g_lv [0, 3] rfl ?_
        exact t_Reader_takeOne_185  _ _ _ _ _  hf
      · replace hf := (if_pos c98).symm.trans hf
        refine g_aload_n (pc := 145) 0 dd_Reader_takeOne_134.2.2.2.2.2.1 rfl rfl ?_
        refine g_iconst (pc := 146) (0 : Int32) dd_Reader_takeOne_134.2.2.2.2.2.2.1 (by decide) ?_
        refine g_iconst (pc := 147) (4 : Int32) dd_Reader_takeOne_134.2.2.2.2.2.2.2.1 (by decide) ?_
        obtain ⟨u79, e78, hf⟩ := bd1_e hf
        obtain ⟨x82, h80, e81, hf⟩ := bd2_e hf
        refine g_callV (pc := 148) (ci := 3) [.int (0 : Int32), .int (4 : Int32)] (site_of si_Reader_isBounded (by decide) (by decide)) wd_442 wd_444 wp_9 dd_Reader_takeOne_134.2.2.2.2.2.2.2.2.1 rfl e78 (Nat.le_of_ble_eq_true rfl) (fun z => absurd z si_na_Reader_isBounded) (fun z => absurd z si_na_Reader_isBounded) (fun z => absurd z si_na_Reader_isBounded) (c_Reader_isBounded e81) rfl ?_
        refine g_st [.int x82] rfl ?_
        refine g_ifeq (pc := 151) 177 dd_Reader_takeOne_134.2.2.2.2.2.2.2.2.2.1 (by decide) (fun c97 => ?_) (fun c97 => ?_)
        · replace hf := (if_pos c97).symm.trans hf
          refine g_lv [0, 1, 2, 4] rfl ?_
          exact t_Reader_takeOne_177 rec127 hrec127 _ _ _ _ _ _ _  hf
        · replace hf := (if_neg c97).symm.trans hf
          refine g_aload_n (pc := 154) 0 dd_Reader_takeOne_134.2.2.2.2.2.2.2.2.2.2.1 rfl rfl ?_
          refine g_aload_n (pc := 155) 1 dd_Reader_takeOne_134.2.2.2.2.2.2.2.2.2.2.2.1 rfl rfl ?_
          obtain ⟨x83, e84, hf⟩ := bd1_e hf
          refine g_get (pc := 156) (ci := 4) (kk := 15) dd_Reader_takeOne_134.2.2.2.2.2.2.2.2.2.2.2.2.1 rfl in_Realm (by decide) wd_147 (gR_spec e84) ?_
          refine g_iload_n (pc := 159) 2 dd_Reader_takeOne_134.2.2.2.2.2.2.2.2.2.2.2.2.2.1 rfl rfl ?_
          obtain ⟨u86, e85, hf⟩ := bd1_e hf
          obtain ⟨x89, h87, e88, hf⟩ := bd2_e hf
          refine g_callV (pc := 160) (ci := 3) [.ref x83, .int b2] (site_of si_Reader_addLaw (by decide) (by decide)) wd_464 wd_466 wp_14 dd_Reader_takeOne_134.2.2.2.2.2.2.2.2.2.2.2.2.2.2.1 rfl e85 (Nat.le_of_ble_eq_true rfl) (fun z => absurd z si_na_Reader_addLaw) (fun z => absurd z si_na_Reader_addLaw) (fun z => absurd z si_na_Reader_addLaw) (c_Reader_addLaw e88) rfl ?_
          refine g_st [.int x89] rfl ?_
          refine g_ifeq (pc := 163) 177 dd_Reader_takeOne_134.2.2.2.2.2.2.2.2.2.2.2.2.2.2.2.1 (by decide) (fun c96 => ?_) (fun c96 => ?_)
          · replace hf := (if_pos c96).symm.trans hf
            refine g_lv [0, 1, 2, 4] rfl ?_
            exact t_Reader_takeOne_177 rec127 hrec127 _ _ _ _ _ _ _  hf
          · replace hf := (if_neg c96).symm.trans hf
            refine g_aload_n (pc := 166) 0 dd_Reader_takeOne_134.2.2.2.2.2.2.2.2.2.2.2.2.2.2.2.2.1 rfl rfl ?_
            obtain ⟨u91, e90, hf⟩ := bd1_e hf
            obtain ⟨x94, h92, e93, hf⟩ := bd2_e hf
            refine g_callV (pc := 167) (ci := 3) [] (site_of si_Reader_takeToken (by decide) (by decide)) wd_357 wd_359 wp_0 dd_Reader_takeOne_134.2.2.2.2.2.2.2.2.2.2.2.2.2.2.2.2.2.1 rfl e90 (Nat.le_of_ble_eq_true rfl) (fun z => absurd z si_na_Reader_takeToken) (fun z => absurd z si_na_Reader_takeToken) (fun z => absurd z si_na_Reader_takeToken) (c_Reader_takeToken e93) rfl ?_
            refine g_st [.int x94] rfl ?_
            refine g_ifeq (pc := 170) 177 dd_Reader_takeOne_134.2.2.2.2.2.2.2.2.2.2.2.2.2.2.2.2.2.2.1 (by decide) (fun c95 => ?_) (fun c95 => ?_)
            · replace hf := (if_pos c95).symm.trans hf
              refine g_lv [0, 1, 2, 4] rfl ?_
              exact t_Reader_takeOne_177 rec127 hrec127 _ _ _ _ _ _ _  hf
            · replace hf := (if_neg c95).symm.trans hf
              refine g_iconst (pc := 173) (1 : Int32) dd_Reader_takeOne_134.2.2.2.2.2.2.2.2.2.2.2.2.2.2.2.2.2.2.2.1 (by decide) ?_
              refine g_goto (pc := 174) 178 dd_Reader_takeOne_134.2.2.2.2.2.2.2.2.2.2.2.2.2.2.2.2.2.2.2.2.1 (by decide) ?_
              refine g_lv [0, 1, 2, 4] rfl ?_
              exact t_Reader_takeOne_178 rec127 hrec127 _ _ _ _ _ _ _ _  hf
def f_Reader_takeOne_127  : Nat → Nat → Nat → Int32 → Int32 → Int32 → mH → Option (Int32 × mH)
  | 0 => fun _ _ _ _ _ _ => none
  | n + 1 => f_Reader_takeOne_127b  (f_Reader_takeOne_127  n)
theorem t_Reader_takeOne_127 {sc : Nat × (Nat → Int32)}  : ∀ (n : Nat) (b0 : Nat) (b1 : Nat) (b2 : Int32) (b3 : Int32) (b4 : Int32) (h : mH) (r : Int32) (h' : mH) (hf : f_Reader_takeOne_127  n b0 b1 b2 b3 b4 h = some (r, h')), G sc y_Reader_takeOne prog_4_method_7_code 5 (some .boolean) 3 66 127 [(0, .ref b0), (1, .ref b1), (2, .int b2), (3, .int b3), (4, .int b4)] [] h (some (.int r)) h'
  | 0, _, _, _, _, _, _, _, _, hf => by cases hf
  | n + 1, _, _, _, _, _, _, _, _, hf => t_Reader_takeOne_127b  (f_Reader_takeOne_127  n) (t_Reader_takeOne_127  n) _ _ _ _ _ _ _ _ hf
def f_Reader_takeOne_123  (b0 : Nat) (b1 : Nat) (b2 : Int32) (s0 : Int32) (h : mH) : Option (Int32 × mH) :=
  f_Reader_takeOne_127  FU b0 b1 b2 s0 (0 : Int32) h
set_option maxRecDepth 20000 in
theorem t_Reader_takeOne_123 {sc : Nat × (Nat → Int32)}  (b0 : Nat) (b1 : Nat) (b2 : Int32) (s0 : Int32) (h : mH) (r : Int32) (h' : mH) (hf : f_Reader_takeOne_123  b0 b1 b2 s0 h = some (r, h')) : G sc y_Reader_takeOne prog_4_method_7_code 5 (some .boolean) 3 66 123 [(0, .ref b0), (1, .ref b1), (2, .int b2)] [.int s0] h (some (.int r)) h' := by
  unfold f_Reader_takeOne_123 at hf
  refine g_istore_n (pc := 123) [(3, .int s0), (0, .ref b0), (1, .ref b1), (2, .int b2)] dd_Reader_takeOne_89.2.2.2.2.2.2.2.2.2.2.2.2.2.2.2.2.2.1 rfl (Nat.le_of_ble_eq_true rfl) rfl ?_
  refine g_iconst (pc := 124) (0 : Int32) dd_Reader_takeOne_89.2.2.2.2.2.2.2.2.2.2.2.2.2.2.2.2.2.2.1 (by decide) ?_
  refine g_istore (pc := 125) [(4, .int (0 : Int32)), (3, .int s0), (0, .ref b0), (1, .ref b1), (2, .int b2)] dd_Reader_takeOne_89.2.2.2.2.2.2.2.2.2.2.2.2.2.2.2.2.2.2.2.1 (Nat.le_of_ble_eq_true rfl) rfl ?_
  refine g_lv [2, 3, 4, 1, 0] rfl ?_
  exact t_Reader_takeOne_127  FU _ _ _ _ _ _ _ _  hf
def f_Reader_takeOne_122  (b0 : Nat) (b1 : Nat) (b2 : Int32) (h : mH) : Option (Int32 × mH) :=
  f_Reader_takeOne_123  b0 b1 b2 (0 : Int32) h
set_option maxRecDepth 20000 in
theorem t_Reader_takeOne_122 {sc : Nat × (Nat → Int32)}  (b0 : Nat) (b1 : Nat) (b2 : Int32) (h : mH) (r : Int32) (h' : mH) (hf : f_Reader_takeOne_122  b0 b1 b2 h = some (r, h')) : G sc y_Reader_takeOne prog_4_method_7_code 5 (some .boolean) 3 66 122 [(0, .ref b0), (1, .ref b1), (2, .int b2)] [] h (some (.int r)) h' := by
  unfold f_Reader_takeOne_122 at hf
  refine g_iconst (pc := 122) (0 : Int32) dd_Reader_takeOne_89.2.2.2.2.2.2.2.2.2.2.2.2.2.2.2.2.1 (by decide) ?_
  refine g_lv [0, 1, 2] rfl ?_
  exact t_Reader_takeOne_123  _ _ _ _ _ _ _  hf
def f_Reader_takeOne_0  (a0 : Nat) (a1 : Nat) (a2 : Int32) (h : mH) : Option (Int32 × mH) :=
  if a2 < (3 : Int32) then
    bd1 (gI h a1 4 1) fun x1 =>
    bd1 (pV h a1 4 1 (.int (x1 + (1 : Int32)))) fun h3 =>
    bd1 (kC h3 a0 3) fun _ =>
    bd2 (f_Reader_takeNumber a0 (0 : Int32) (5 : Int32) h3) fun x9 h7 =>
    if x9 = 0 then
      f_Reader_takeOne_122  a0 a1 a2 h7
    else
      bd1 (gR h7 a1 4 11) fun x10 =>
      bd1 (kC h7 a0 3) fun _ =>
      bd2 (f_Reader_putInto a0 x10 a2 h7) fun x16 h14 =>
      if x16 = 0 then
        f_Reader_takeOne_122  a0 a1 a2 h14
      else
        bd1 (kC h14 a0 3) fun _ =>
        bd2 (f_Reader_takeNumber a0 (0 : Int32) (3 : Int32) h14) fun x21 h19 =>
        if x21 = 0 then
          f_Reader_takeOne_122  a0 a1 a2 h19
        else
          bd1 (gR h19 a1 4 12) fun x22 =>
          bd1 (kC h19 a0 3) fun _ =>
          bd2 (f_Reader_putInto a0 x22 a2 h19) fun x28 h26 =>
          if x28 = 0 then
            f_Reader_takeOne_122  a0 a1 a2 h26
          else
            bd1 (kC h26 a0 3) fun _ =>
            bd2 (f_Reader_takeNumber a0 (0 : Int32) (10 : Int32) h26) fun x33 h31 =>
            if x33 = 0 then
              f_Reader_takeOne_122  a0 a1 a2 h31
            else
              bd1 (gR h31 a1 4 13) fun x34 =>
              bd1 (kC h31 a0 3) fun _ =>
              bd2 (f_Reader_putInto a0 x34 a2 h31) fun x40 h38 =>
              if x40 = 0 then
                f_Reader_takeOne_122  a0 a1 a2 h38
              else
                bd1 (kC h38 a0 3) fun _ =>
                bd2 (f_Reader_takeNumber a0 (0 : Int32) (99 : Int32) h38) fun x45 h43 =>
                if x45 = 0 then
                  f_Reader_takeOne_122  a0 a1 a2 h43
                else
                  bd1 (gR h43 a1 4 14) fun x46 =>
                  bd1 (kC h43 a0 3) fun _ =>
                  bd2 (f_Reader_putInto a0 x46 a2 h43) fun x52 h50 =>
                  if x52 = 0 then
                    f_Reader_takeOne_122  a0 a1 a2 h50
                  else
                    bd1 (kC h50 a0 3) fun _ =>
                    bd2 (f_Reader_takeToken a0 h50) fun x57 h55 =>
                    if x57 = 0 then
                      f_Reader_takeOne_122  a0 a1 a2 h55
                    else
                      f_Reader_takeOne_123  a0 a1 a2 (1 : Int32) h55
  else
    bd1 (gI h a0 3 7) fun x67 =>
    bd1 (kC h a0 3) fun _ =>
    bd2 (f_Reader_fail a0 (5 : Int32) x67 h) fun x73 h71 =>
    if x73 = 0 ∨ x73 = 1 then some (x73, h71) else none
set_option maxRecDepth 20000 in
theorem t_Reader_takeOne_0 {sc : Nat × (Nat → Int32)}  (a0 : Nat) (a1 : Nat) (a2 : Int32) (h : mH) (r : Int32) (h' : mH) (hf : f_Reader_takeOne_0  a0 a1 a2 h = some (r, h')) : G sc y_Reader_takeOne prog_4_method_7_code 5 (some .boolean) 3 66 0 [(0, .ref a0), (1, .ref a1), (2, .int a2)] [] h (some (.int r)) h' := by
  unfold f_Reader_takeOne_0 at hf
  refine g_iload_n (pc := 0) 2 dd_Reader_takeOne_0.1 rfl rfl ?_
  refine g_iconst (pc := 1) (3 : Int32) dd_Reader_takeOne_0.2.1 (by decide) ?_
  refine g_icmplt (pc := 2) 15 dd_Reader_takeOne_0.2.2.1 (by decide) (fun c75 => ?_) (fun c75 => ?_)
  · replace hf := (if_pos c75).symm.trans hf
    refine g_aload_n (pc := 15) 1 dd_Reader_takeOne_0.2.2.2.2.2.2.2.2.2.1 rfl rfl ?_
    refine g_dup (pc := 16) dd_Reader_takeOne_0.2.2.2.2.2.2.2.2.2.2.1 rfl ?_
    obtain ⟨x1, e2, hf⟩ := bd1_e hf
    refine g_get (pc := 17) (ci := 4) (kk := 1) dd_Reader_takeOne_0.2.2.2.2.2.2.2.2.2.2.2.1 rfl in_Realm (by decide) wd_101 (gI_spec e2) ?_
    refine g_iconst (pc := 20) (1 : Int32) dd_Reader_takeOne_0.2.2.2.2.2.2.2.2.2.2.2.2.1 (by decide) ?_
    refine g_iadd (pc := 21) dd_Reader_takeOne_0.2.2.2.2.2.2.2.2.2.2.2.2.2.1 ?_
    obtain ⟨h3, e4, hf⟩ := bd1_e hf
    refine g_put (pc := 22) (ci := 4) (kk := 1) ty_Realm tyok_Realm nm_Realm dd_Reader_takeOne_0.2.2.2.2.2.2.2.2.2.2.2.2.2.2.1 rfl in_Realm (by decide) wd_101 rfl (fun _ => rfl) (fun _ => rfl) (fun _ z => by cases z) e4 ?_
    refine g_aload_n (pc := 25) 0 dd_Reader_takeOne_0.2.2.2.2.2.2.2.2.2.2.2.2.2.2.2.1 rfl rfl ?_
    refine g_iconst (pc := 26) (0 : Int32) dd_Reader_takeOne_0.2.2.2.2.2.2.2.2.2.2.2.2.2.2.2.2.1 (by decide) ?_
    refine g_iconst (pc := 27) (5 : Int32) dd_Reader_takeOne_0.2.2.2.2.2.2.2.2.2.2.2.2.2.2.2.2.2.1 (by decide) ?_
    obtain ⟨u6, e5, hf⟩ := bd1_e hf
    obtain ⟨x9, h7, e8, hf⟩ := bd2_e hf
    refine g_callV (pc := 28) (ci := 3) [.int (0 : Int32), .int (5 : Int32)] (site_of si_Reader_takeNumber (by decide) (by decide)) wd_438 wd_440 wp_8 dd_Reader_takeOne_0.2.2.2.2.2.2.2.2.2.2.2.2.2.2.2.2.2.2.1 rfl e5 (Nat.le_of_ble_eq_true rfl) (fun z => absurd z si_na_Reader_takeNumber) (fun z => absurd z si_na_Reader_takeNumber) (fun z => absurd z si_na_Reader_takeNumber) (c_Reader_takeNumber e8) rfl ?_
    refine g_st [.int x9] rfl ?_
    refine g_ifeq (pc := 31) 122 dd_Reader_takeOne_0.2.2.2.2.2.2.2.2.2.2.2.2.2.2.2.2.2.2.2.1 (by decide) (fun c66 => ?_) (fun c66 => ?_)
    · replace hf := (if_pos c66).symm.trans hf
      refine g_lv [0, 1, 2] rfl ?_
      exact t_Reader_takeOne_122  _ _ _ _ _ _  hf
    · replace hf := (if_neg c66).symm.trans hf
      refine g_aload_n (pc := 34) 0 dd_Reader_takeOne_0.2.2.2.2.2.2.2.2.2.2.2.2.2.2.2.2.2.2.2.2.1 rfl rfl ?_
      refine g_aload_n (pc := 35) 1 dd_Reader_takeOne_0.2.2.2.2.2.2.2.2.2.2.2.2.2.2.2.2.2.2.2.2.2.1 rfl rfl ?_
      obtain ⟨x10, e11, hf⟩ := bd1_e hf
      refine g_get (pc := 36) (ci := 4) (kk := 11) dd_Reader_takeOne_0.2.2.2.2.2.2.2.2.2.2.2.2.2.2.2.2.2.2.2.2.2.2.1 rfl in_Realm (by decide) wd_132 (gR_spec e11) ?_
      refine g_iload_n (pc := 39) 2 dd_Reader_takeOne_0.2.2.2.2.2.2.2.2.2.2.2.2.2.2.2.2.2.2.2.2.2.2.2 rfl rfl ?_
      obtain ⟨u13, e12, hf⟩ := bd1_e hf
      obtain ⟨x16, h14, e15, hf⟩ := bd2_e hf
      refine g_callV (pc := 40) (ci := 3) [.ref x10, .int a2] (site_of si_Reader_putInto (by decide) (by decide)) wd_447 wd_449 wp_10 dd_Reader_takeOne_40.1 rfl e12 (Nat.le_of_ble_eq_true rfl) (fun z => absurd z si_na_Reader_putInto) (fun z => absurd z si_na_Reader_putInto) (fun z => absurd z si_na_Reader_putInto) (c_Reader_putInto e15) rfl ?_
      refine g_st [.int x16] rfl ?_
      refine g_ifeq (pc := 43) 122 dd_Reader_takeOne_40.2.1 (by decide) (fun c65 => ?_) (fun c65 => ?_)
      · replace hf := (if_pos c65).symm.trans hf
        refine g_lv [0, 1, 2] rfl ?_
        exact t_Reader_takeOne_122  _ _ _ _ _ _  hf
      · replace hf := (if_neg c65).symm.trans hf
        refine g_aload_n (pc := 46) 0 dd_Reader_takeOne_40.2.2.1 rfl rfl ?_
        refine g_iconst (pc := 47) (0 : Int32) dd_Reader_takeOne_40.2.2.2.1 (by decide) ?_
        refine g_iconst (pc := 48) (3 : Int32) dd_Reader_takeOne_40.2.2.2.2.1 (by decide) ?_
        obtain ⟨u18, e17, hf⟩ := bd1_e hf
        obtain ⟨x21, h19, e20, hf⟩ := bd2_e hf
        refine g_callV (pc := 49) (ci := 3) [.int (0 : Int32), .int (3 : Int32)] (site_of si_Reader_takeNumber (by decide) (by decide)) wd_438 wd_440 wp_8 dd_Reader_takeOne_40.2.2.2.2.2.1 rfl e17 (Nat.le_of_ble_eq_true rfl) (fun z => absurd z si_na_Reader_takeNumber) (fun z => absurd z si_na_Reader_takeNumber) (fun z => absurd z si_na_Reader_takeNumber) (c_Reader_takeNumber e20) rfl ?_
        refine g_st [.int x21] rfl ?_
        refine g_ifeq (pc := 52) 122 dd_Reader_takeOne_40.2.2.2.2.2.2.1 (by decide) (fun c64 => ?_) (fun c64 => ?_)
        · replace hf := (if_pos c64).symm.trans hf
          refine g_lv [0, 1, 2] rfl ?_
          exact t_Reader_takeOne_122  _ _ _ _ _ _  hf
        · replace hf := (if_neg c64).symm.trans hf
          refine g_aload_n (pc := 55) 0 dd_Reader_takeOne_40.2.2.2.2.2.2.2.1 rfl rfl ?_
          refine g_aload_n (pc := 56) 1 dd_Reader_takeOne_40.2.2.2.2.2.2.2.2.1 rfl rfl ?_
          obtain ⟨x22, e23, hf⟩ := bd1_e hf
          refine g_get (pc := 57) (ci := 4) (kk := 12) dd_Reader_takeOne_40.2.2.2.2.2.2.2.2.2.1 rfl in_Realm (by decide) wd_136 (gR_spec e23) ?_
          refine g_iload_n (pc := 60) 2 dd_Reader_takeOne_40.2.2.2.2.2.2.2.2.2.2.1 rfl rfl ?_
          obtain ⟨u25, e24, hf⟩ := bd1_e hf
          obtain ⟨x28, h26, e27, hf⟩ := bd2_e hf
          refine g_callV (pc := 61) (ci := 3) [.ref x22, .int a2] (site_of si_Reader_putInto (by decide) (by decide)) wd_447 wd_449 wp_10 dd_Reader_takeOne_40.2.2.2.2.2.2.2.2.2.2.2.1 rfl e24 (Nat.le_of_ble_eq_true rfl) (fun z => absurd z si_na_Reader_putInto) (fun z => absurd z si_na_Reader_putInto) (fun z => absurd z si_na_Reader_putInto) (c_Reader_putInto e27) rfl ?_
          refine g_st [.int x28] rfl ?_
          refine g_ifeq (pc := 64) 122 dd_Reader_takeOne_40.2.2.2.2.2.2.2.2.2.2.2.2.1 (by decide) (fun c63 => ?_) (fun c63 => ?_)
          · replace hf := (if_pos c63).symm.trans hf
            refine g_lv [0, 1, 2] rfl ?_
            exact t_Reader_takeOne_122  _ _ _ _ _ _  hf
          · replace hf := (if_neg c63).symm.trans hf
            refine g_aload_n (pc := 67) 0 dd_Reader_takeOne_40.2.2.2.2.2.2.2.2.2.2.2.2.2.1 rfl rfl ?_
            refine g_iconst (pc := 68) (0 : Int32) dd_Reader_takeOne_40.2.2.2.2.2.2.2.2.2.2.2.2.2.2.1 (by decide) ?_
            refine g_bipush (pc := 69) (10 : Int32) dd_Reader_takeOne_40.2.2.2.2.2.2.2.2.2.2.2.2.2.2.2.1 (by decide) ?_
            obtain ⟨u30, e29, hf⟩ := bd1_e hf
            obtain ⟨x33, h31, e32, hf⟩ := bd2_e hf
            refine g_callV (pc := 71) (ci := 3) [.int (0 : Int32), .int (10 : Int32)] (site_of si_Reader_takeNumber (by decide) (by decide)) wd_438 wd_440 wp_8 dd_Reader_takeOne_40.2.2.2.2.2.2.2.2.2.2.2.2.2.2.2.2.1 rfl e29 (Nat.le_of_ble_eq_true rfl) (fun z => absurd z si_na_Reader_takeNumber) (fun z => absurd z si_na_Reader_takeNumber) (fun z => absurd z si_na_Reader_takeNumber) (c_Reader_takeNumber e32) rfl ?_
            refine g_st [.int x33] rfl ?_
            refine g_ifeq (pc := 74) 122 dd_Reader_takeOne_40.2.2.2.2.2.2.2.2.2.2.2.2.2.2.2.2.2.1 (by decide) (fun c62 => ?_) (fun c62 => ?_)
            · replace hf := (if_pos c62).symm.trans hf
              refine g_lv [0, 1, 2] rfl ?_
              exact t_Reader_takeOne_122  _ _ _ _ _ _  hf
            · replace hf := (if_neg c62).symm.trans hf
              refine g_aload_n (pc := 77) 0 dd_Reader_takeOne_40.2.2.2.2.2.2.2.2.2.2.2.2.2.2.2.2.2.2.1 rfl rfl ?_
              refine g_aload_n (pc := 78) 1 dd_Reader_takeOne_40.2.2.2.2.2.2.2.2.2.2.2.2.2.2.2.2.2.2.2.1 rfl rfl ?_
              obtain ⟨x34, e35, hf⟩ := bd1_e hf
              refine g_get (pc := 79) (ci := 4) (kk := 13) dd_Reader_takeOne_40.2.2.2.2.2.2.2.2.2.2.2.2.2.2.2.2.2.2.2.2.1 rfl in_Realm (by decide) wd_140 (gR_spec e35) ?_
              refine g_iload_n (pc := 82) 2 dd_Reader_takeOne_40.2.2.2.2.2.2.2.2.2.2.2.2.2.2.2.2.2.2.2.2.2.1 rfl rfl ?_
              obtain ⟨u37, e36, hf⟩ := bd1_e hf
              obtain ⟨x40, h38, e39, hf⟩ := bd2_e hf
              refine g_callV (pc := 83) (ci := 3) [.ref x34, .int a2] (site_of si_Reader_putInto (by decide) (by decide)) wd_447 wd_449 wp_10 dd_Reader_takeOne_40.2.2.2.2.2.2.2.2.2.2.2.2.2.2.2.2.2.2.2.2.2.2.1 rfl e36 (Nat.le_of_ble_eq_true rfl) (fun z => absurd z si_na_Reader_putInto) (fun z => absurd z si_na_Reader_putInto) (fun z => absurd z si_na_Reader_putInto) (c_Reader_putInto e39) rfl ?_
              refine g_st [.int x40] rfl ?_
              refine g_ifeq (pc := 86) 122 dd_Reader_takeOne_40.2.2.2.2.2.2.2.2.2.2.2.2.2.2.2.2.2.2.2.2.2.2.2 (by decide) (fun c61 => ?_) (fun c61 => ?_)
              · replace hf := (if_pos c61).symm.trans hf
                refine g_lv [0, 1, 2] rfl ?_
                exact t_Reader_takeOne_122  _ _ _ _ _ _  hf
              · replace hf := (if_neg c61).symm.trans hf
                refine g_aload_n (pc := 89) 0 dd_Reader_takeOne_89.1 rfl rfl ?_
                refine g_iconst (pc := 90) (0 : Int32) dd_Reader_takeOne_89.2.1 (by decide) ?_
                refine g_bipush (pc := 91) (99 : Int32) dd_Reader_takeOne_89.2.2.1 (by decide) ?_
                obtain ⟨u42, e41, hf⟩ := bd1_e hf
                obtain ⟨x45, h43, e44, hf⟩ := bd2_e hf
                refine g_callV (pc := 93) (ci := 3) [.int (0 : Int32), .int (99 : Int32)] (site_of si_Reader_takeNumber (by decide) (by decide)) wd_438 wd_440 wp_8 dd_Reader_takeOne_89.2.2.2.1 rfl e41 (Nat.le_of_ble_eq_true rfl) (fun z => absurd z si_na_Reader_takeNumber) (fun z => absurd z si_na_Reader_takeNumber) (fun z => absurd z si_na_Reader_takeNumber) (c_Reader_takeNumber e44) rfl ?_
                refine g_st [.int x45] rfl ?_
                refine g_ifeq (pc := 96) 122 dd_Reader_takeOne_89.2.2.2.2.1 (by decide) (fun c60 => ?_) (fun c60 => ?_)
                · replace hf := (if_pos c60).symm.trans hf
                  refine g_lv [0, 1, 2] rfl ?_
                  exact t_Reader_takeOne_122  _ _ _ _ _ _  hf
                · replace hf := (if_neg c60).symm.trans hf
                  refine g_aload_n (pc := 99) 0 dd_Reader_takeOne_89.2.2.2.2.2.1 rfl rfl ?_
                  refine g_aload_n (pc := 100) 1 dd_Reader_takeOne_89.2.2.2.2.2.2.1 rfl rfl ?_
                  obtain ⟨x46, e47, hf⟩ := bd1_e hf
                  refine g_get (pc := 101) (ci := 4) (kk := 14) dd_Reader_takeOne_89.2.2.2.2.2.2.2.1 rfl in_Realm (by decide) wd_143 (gR_spec e47) ?_
                  refine g_iload_n (pc := 104) 2 dd_Reader_takeOne_89.2.2.2.2.2.2.2.2.1 rfl rfl ?_
                  obtain ⟨u49, e48, hf⟩ := bd1_e hf
                  obtain ⟨x52, h50, e51, hf⟩ := bd2_e hf
                  refine g_callV (pc := 105) (ci := 3) [.ref x46, .int a2] (site_of si_Reader_putInto (by decide) (by decide)) wd_447 wd_449 wp_10 dd_Reader_takeOne_89.2.2.2.2.2.2.2.2.2.1 rfl e48 (Nat.le_of_ble_eq_true rfl) (fun z => absurd z si_na_Reader_putInto) (fun z => absurd z si_na_Reader_putInto) (fun z => absurd z si_na_Reader_putInto) (c_Reader_putInto e51) rfl ?_
                  refine g_st [.int x52] rfl ?_
                  refine g_ifeq (pc := 108) 122 dd_Reader_takeOne_89.2.2.2.2.2.2.2.2.2.2.1 (by decide) (fun c59 => ?_) (fun c59 => ?_)
                  · replace hf := (if_pos c59).symm.trans hf
                    refine g_lv [0, 1, 2] rfl ?_
                    exact t_Reader_takeOne_122  _ _ _ _ _ _  hf
                  · replace hf := (if_neg c59).symm.trans hf
                    refine g_aload_n (pc := 111) 0 dd_Reader_takeOne_89.2.2.2.2.2.2.2.2.2.2.2.1 rfl rfl ?_
                    obtain ⟨u54, e53, hf⟩ := bd1_e hf
                    obtain ⟨x57, h55, e56, hf⟩ := bd2_e hf
                    refine g_callV (pc := 112) (ci := 3) [] (site_of si_Reader_takeToken (by decide) (by decide)) wd_357 wd_359 wp_0 dd_Reader_takeOne_89.2.2.2.2.2.2.2.2.2.2.2.2.1 rfl e53 (Nat.le_of_ble_eq_true rfl) (fun z => absurd z si_na_Reader_takeToken) (fun z => absurd z si_na_Reader_takeToken) (fun z => absurd z si_na_Reader_takeToken) (c_Reader_takeToken e56) rfl ?_
                    refine g_st [.int x57] rfl ?_
                    refine g_ifeq (pc := 115) 122 dd_Reader_takeOne_89.2.2.2.2.2.2.2.2.2.2.2.2.2.1 (by decide) (fun c58 => ?_) (fun c58 => ?_)
                    · replace hf := (if_pos c58).symm.trans hf
                      refine g_lv [0, 1, 2] rfl ?_
                      exact t_Reader_takeOne_122  _ _ _ _ _ _  hf
                    · replace hf := (if_neg c58).symm.trans hf
                      refine g_iconst (pc := 118) (1 : Int32) dd_Reader_takeOne_89.2.2.2.2.2.2.2.2.2.2.2.2.2.2.1 (by decide) ?_
                      refine g_goto (pc := 119) 123 dd_Reader_takeOne_89.2.2.2.2.2.2.2.2.2.2.2.2.2.2.2.1 (by decide) ?_
                      refine g_lv [0, 1, 2] rfl ?_
                      exact t_Reader_takeOne_123  _ _ _ _ _ _ _  hf
  · replace hf := (if_neg c75).symm.trans hf
    refine g_aload_n (pc := 5) 0 dd_Reader_takeOne_0.2.2.2.1 rfl rfl ?_
    refine g_iconst (pc := 6) (5 : Int32) dd_Reader_takeOne_0.2.2.2.2.1 (by decide) ?_
    refine g_aload_n (pc := 7) 0 dd_Reader_takeOne_0.2.2.2.2.2.1 rfl rfl ?_
    obtain ⟨x67, e68, hf⟩ := bd1_e hf
    refine g_get (pc := 8) (ci := 3) (kk := 7) dd_Reader_takeOne_0.2.2.2.2.2.2.1 rfl in_Reader (by decide) wd_43 (gI_spec e68) ?_
    obtain ⟨u70, e69, hf⟩ := bd1_e hf
    obtain ⟨x73, h71, e72, hf⟩ := bd2_e hf
    refine g_callV (pc := 11) (ci := 3) [.int (5 : Int32), .int x67] (site_of si_Reader_fail (by decide) (by decide)) wd_373 wd_375 wp_4 dd_Reader_takeOne_0.2.2.2.2.2.2.2.1 rfl e69 (Nat.le_of_ble_eq_true rfl) (fun z => absurd z si_na_Reader_fail) (fun z => absurd z si_na_Reader_fail) (fun z => absurd z si_na_Reader_fail) (c_Reader_fail e72) rfl ?_
    refine g_st [.int x73] rfl ?_
    by_cases c74 : x73 = 0 ∨ x73 = 1
    · replace hf := (if_pos c74).symm.trans hf
      obtain ⟨rfl, rfl⟩ := ret2 hf
      exact g_zret (pc := 14) rfl (nar_z c74) dd_Reader_takeOne_0.2.2.2.2.2.2.2.2.1
    · exact absurd ((if_neg c74).symm.trans hf) (by simp)
def f_Reader_takeOne (a0 : Nat) (a1 : Nat) (a2 : Int32) (h : mH) : Option (Int32 × mH) := f_Reader_takeOne_0 a0 a1 a2 h
theorem c_Reader_takeOne {sc : Nat × (Nat → Int32)} {a0 : Nat} {a1 : Nat} {a2 : Int32} {h : mH} {r : Int32} {h' : mH} (hf : f_Reader_takeOne a0 a1 a2 h = some (r, h')) : MM sc y_Reader_takeOne prog_4_method_7_code 5 (some .boolean) 3 66 [.ref a0, .ref a1, .int a2] h (some (.int r)) h' :=
  mm_of_G si_pn_Reader (Nat.le_of_ble_eq_true rfl) (t_Reader_takeOne_0 _ _ _ _ _ _ hf)
/-! Reader takeWant (LQuotaLaws$Realm;)Z -/
set_option maxRecDepth 100000 in
theorem dd_Reader_takeWant_0 : (decode prog_4_method_8_code 0 = .ok (.aload_n 0, 1)) ∧ (decode prog_4_method_8_code 1 = .ok (.iconst 0, 1)) ∧ (decode prog_4_method_8_code 2 = .ok (.iconst 2, 1)) ∧ (decode prog_4_method_8_code 3 = .ok (.invokevirtual 95, 3)) ∧ (decode prog_4_method_8_code 6 = .ok (.ifCond .ne 5, 3)) ∧ (decode prog_4_method_8_code 9 = .ok (.iconst 0, 1)) ∧ (decode prog_4_method_8_code 10 = .ok (.ireturn, 1)) ∧ (decode prog_4_method_8_code 11 = .ok (.aload_n 0, 1)) ∧ (decode prog_4_method_8_code 12 = .ok (.getfield 123, 3)) ∧ (decode prog_4_method_8_code 15 = .ok (.istore_n 2, 1)) ∧ (decode prog_4_method_8_code 16 = .ok (.aload_n 0, 1)) ∧ (decode prog_4_method_8_code 17 = .ok (.iconst 0, 1)) ∧ (decode prog_4_method_8_code 18 = .ok (.iconst 4, 1)) ∧ (decode prog_4_method_8_code 19 = .ok (.invokevirtual 95, 3)) ∧ (decode prog_4_method_8_code 22 = .ok (.ifCond .eq 33, 3)) ∧ (decode prog_4_method_8_code 25 = .ok (.aload_n 0, 1)) ∧ (decode prog_4_method_8_code 26 = .ok (.aload_n 1, 1)) ∧ (decode prog_4_method_8_code 27 = .ok (.getfield 144, 3)) ∧ (decode prog_4_method_8_code 30 = .ok (.iload_n 2, 1)) ∧ (decode prog_4_method_8_code 31 = .ok (.invokevirtual 141, 3)) ∧ (decode prog_4_method_8_code 34 = .ok (.ifCond .eq 21, 3)) ∧ (decode prog_4_method_8_code 37 = .ok (.aload_n 0, 1)) ∧ (decode prog_4_method_8_code 38 = .ok (.invokevirtual 36, 3)) ∧ (decode prog_4_method_8_code 41 = .ok (.ifCond .eq 14, 3)) := by
  have h : List.drop 0 prog_4_method_8_code.data.toList = 0x2a :: _ := rfl
  refine ⟨zq_k_n 42 h rfl (zq_o_42 _), ?_⟩
  replace h := zq_nx1 (q := 1) h rfl
  refine ⟨zq_k_n 3 h rfl (zq_o_3 _), ?_⟩
  replace h := zq_nx1 (q := 2) h rfl
  refine ⟨zq_k_n 5 h rfl (zq_o_5 _), ?_⟩
  replace h := zq_nx1 (q := 3) h rfl
  refine ⟨zq_k_u2 182 (fun z => .invokevirtual z) 95 h rfl (zq_o_182 _) (by decide +kernel), ?_⟩
  replace h := zq_nx3 (q := 6) h rfl
  refine ⟨zq_k_s2 154 (fun z => .ifCond .ne z) 5 h rfl (zq_o_154 _) (by decide +kernel), ?_⟩
  replace h := zq_nx3 (q := 9) h rfl
  refine ⟨zq_k_n 3 h rfl (zq_o_3 _), ?_⟩
  replace h := zq_nx1 (q := 10) h rfl
  refine ⟨zq_k_n 172 h rfl (zq_o_172 _), ?_⟩
  replace h := zq_nx1 (q := 11) h rfl
  refine ⟨zq_k_n 42 h rfl (zq_o_42 _), ?_⟩
  replace h := zq_nx1 (q := 12) h rfl
  refine ⟨zq_k_u2 180 (fun z => .getfield z) 123 h rfl (zq_o_180 _) (by decide +kernel), ?_⟩
  replace h := zq_nx3 (q := 15) h rfl
  refine ⟨zq_k_n 61 h rfl (zq_o_61 _), ?_⟩
  replace h := zq_nx1 (q := 16) h rfl
  refine ⟨zq_k_n 42 h rfl (zq_o_42 _), ?_⟩
  replace h := zq_nx1 (q := 17) h rfl
  refine ⟨zq_k_n 3 h rfl (zq_o_3 _), ?_⟩
  replace h := zq_nx1 (q := 18) h rfl
  refine ⟨zq_k_n 7 h rfl (zq_o_7 _), ?_⟩
  replace h := zq_nx1 (q := 19) h rfl
  refine ⟨zq_k_u2 182 (fun z => .invokevirtual z) 95 h rfl (zq_o_182 _) (by decide +kernel), ?_⟩
  replace h := zq_nx3 (q := 22) h rfl
  refine ⟨zq_k_s2 153 (fun z => .ifCond .eq z) 33 h rfl (zq_o_153 _) (by decide +kernel), ?_⟩
  replace h := zq_nx3 (q := 25) h rfl
  refine ⟨zq_k_n 42 h rfl (zq_o_42 _), ?_⟩
  replace h := zq_nx1 (q := 26) h rfl
  refine ⟨zq_k_n 43 h rfl (zq_o_43 _), ?_⟩
  replace h := zq_nx1 (q := 27) h rfl
  refine ⟨zq_k_u2 180 (fun z => .getfield z) 144 h rfl (zq_o_180 _) (by decide +kernel), ?_⟩
  replace h := zq_nx3 (q := 30) h rfl
  refine ⟨zq_k_n 28 h rfl (zq_o_28 _), ?_⟩
  replace h := zq_nx1 (q := 31) h rfl
  refine ⟨zq_k_u2 182 (fun z => .invokevirtual z) 141 h rfl (zq_o_182 _) (by decide +kernel), ?_⟩
  replace h := zq_nx3 (q := 34) h rfl
  refine ⟨zq_k_s2 153 (fun z => .ifCond .eq z) 21 h rfl (zq_o_153 _) (by decide +kernel), ?_⟩
  replace h := zq_nx3 (q := 37) h rfl
  refine ⟨zq_k_n 42 h rfl (zq_o_42 _), ?_⟩
  replace h := zq_nx1 (q := 38) h rfl
  refine ⟨zq_k_u2 182 (fun z => .invokevirtual z) 36 h rfl (zq_o_182 _) (by decide +kernel), ?_⟩
  replace h := zq_nx3 (q := 41) h rfl
  exact zq_k_s2 153 (fun z => .ifCond .eq z) 14 h rfl (zq_o_153 _) (by decide +kernel)
set_option maxRecDepth 100000 in
theorem dd_Reader_takeWant_44 : (decode prog_4_method_8_code 44 = .ok (.aload_n 0, 1)) ∧ (decode prog_4_method_8_code 45 = .ok (.invokevirtual 117, 3)) ∧ (decode prog_4_method_8_code 48 = .ok (.ifCond .eq 7, 3)) ∧ (decode prog_4_method_8_code 51 = .ok (.iconst 1, 1)) ∧ (decode prog_4_method_8_code 52 = .ok (.goto 4, 3)) ∧ (decode prog_4_method_8_code 55 = .ok (.iconst 0, 1)) ∧ (decode prog_4_method_8_code 56 = .ok (.ireturn, 1)) := by
  have h : List.drop 44 prog_4_method_8_code.data.toList = 0x2a :: _ := rfl
  refine ⟨zq_k_n 42 h rfl (zq_o_42 _), ?_⟩
  replace h := zq_nx1 (q := 45) h rfl
  refine ⟨zq_k_u2 182 (fun z => .invokevirtual z) 117 h rfl (zq_o_182 _) (by decide +kernel), ?_⟩
  replace h := zq_nx3 (q := 48) h rfl
  refine ⟨zq_k_s2 153 (fun z => .ifCond .eq z) 7 h rfl (zq_o_153 _) (by decide +kernel), ?_⟩
  replace h := zq_nx3 (q := 51) h rfl
  refine ⟨zq_k_n 4 h rfl (zq_o_4 _), ?_⟩
  replace h := zq_nx1 (q := 52) h rfl
  refine ⟨zq_k_s2 167 (fun z => .goto z) 4 h rfl (zq_o_167 _) (by decide +kernel), ?_⟩
  replace h := zq_nx3 (q := 55) h rfl
  refine ⟨zq_k_n 3 h rfl (zq_o_3 _), ?_⟩
  replace h := zq_nx1 (q := 56) h rfl
  exact zq_k_n 172 h rfl (zq_o_172 _)
def f_Reader_takeWant_55   (h : mH) : Option (Int32 × mH) :=
  some ((0 : Int32), h)
set_option maxRecDepth 20000 in
theorem t_Reader_takeWant_55 {sc : Nat × (Nat → Int32)}   (h : mH) (r : Int32) (h' : mH) (hf : f_Reader_takeWant_55   h = some (r, h')) : G sc y_Reader_takeWant prog_4_method_8_code 3 (some .boolean) 3 66 55 [] [] h (some (.int r)) h' := by
  unfold f_Reader_takeWant_55 at hf
  refine g_iconst (pc := 55) (0 : Int32) dd_Reader_takeWant_44.2.2.2.2.2.1 (by decide) ?_
  obtain ⟨rfl, rfl⟩ := ret2 hf
  exact g_zret (pc := 56) rfl rfl dd_Reader_takeWant_44.2.2.2.2.2.2
def f_Reader_takeWant_0  (a0 : Nat) (a1 : Nat) (h : mH) : Option (Int32 × mH) :=
  bd1 (kC h a0 3) fun _ =>
  bd2 (f_Reader_takeNumber a0 (0 : Int32) (2 : Int32) h) fun x5 h3 =>
  if x5 = 0 then
    some ((0 : Int32), h3)
  else
    bd1 (gI h3 a0 3 8) fun x6 =>
    bd1 (kC h3 a0 3) fun _ =>
    bd2 (f_Reader_takeNumber a0 (0 : Int32) (4 : Int32) h3) fun x12 h10 =>
    if x12 = 0 then
      f_Reader_takeWant_55  h10
    else
      bd1 (gR h10 a1 4 16) fun x13 =>
      bd1 (kC h10 a0 3) fun _ =>
      bd2 (f_Reader_addLaw a0 x13 x6 h10) fun x19 h17 =>
      if x19 = 0 then
        f_Reader_takeWant_55  h17
      else
        bd1 (kC h17 a0 3) fun _ =>
        bd2 (f_Reader_takeToken a0 h17) fun x24 h22 =>
        if x24 = 0 then
          f_Reader_takeWant_55  h22
        else
          bd1 (kC h22 a0 3) fun _ =>
          bd2 (f_Reader_isStop a0 h22) fun x29 h27 =>
          if x29 = 0 then
            f_Reader_takeWant_55  h27
          else
            some ((1 : Int32), h27)
set_option maxRecDepth 20000 in
theorem t_Reader_takeWant_0 {sc : Nat × (Nat → Int32)}  (a0 : Nat) (a1 : Nat) (h : mH) (r : Int32) (h' : mH) (hf : f_Reader_takeWant_0  a0 a1 h = some (r, h')) : G sc y_Reader_takeWant prog_4_method_8_code 3 (some .boolean) 3 66 0 [(0, .ref a0), (1, .ref a1)] [] h (some (.int r)) h' := by
  unfold f_Reader_takeWant_0 at hf
  refine g_aload_n (pc := 0) 0 dd_Reader_takeWant_0.1 rfl rfl ?_
  refine g_iconst (pc := 1) (0 : Int32) dd_Reader_takeWant_0.2.1 (by decide) ?_
  refine g_iconst (pc := 2) (2 : Int32) dd_Reader_takeWant_0.2.2.1 (by decide) ?_
  obtain ⟨u2, e1, hf⟩ := bd1_e hf
  obtain ⟨x5, h3, e4, hf⟩ := bd2_e hf
  refine g_callV (pc := 3) (ci := 3) [.int (0 : Int32), .int (2 : Int32)] (site_of si_Reader_takeNumber (by decide) (by decide)) wd_438 wd_440 wp_8 dd_Reader_takeWant_0.2.2.2.1 rfl e1 (Nat.le_of_ble_eq_true rfl) (fun z => absurd z si_na_Reader_takeNumber) (fun z => absurd z si_na_Reader_takeNumber) (fun z => absurd z si_na_Reader_takeNumber) (c_Reader_takeNumber e4) rfl ?_
  refine g_st [.int x5] rfl ?_
  refine g_ifne (pc := 6) 11 dd_Reader_takeWant_0.2.2.2.2.1 (by decide) (fun c34 => ?_) (fun c34 => ?_)
  · replace hf := (if_neg c34).symm.trans hf
    refine g_aload_n (pc := 11) 0 dd_Reader_takeWant_0.2.2.2.2.2.2.2.1 rfl rfl ?_
    obtain ⟨x6, e7, hf⟩ := bd1_e hf
    refine g_get (pc := 12) (ci := 3) (kk := 8) dd_Reader_takeWant_0.2.2.2.2.2.2.2.2.1 rfl in_Reader (by decide) wd_44 (gI_spec e7) ?_
    refine g_istore_n (pc := 15) [(2, .int x6), (0, .ref a0), (1, .ref a1)] dd_Reader_takeWant_0.2.2.2.2.2.2.2.2.2.1 rfl (Nat.le_of_ble_eq_true rfl) rfl ?_
    refine g_aload_n (pc := 16) 1 dd_Reader_takeWant_0.2.2.2.2.2.2.2.2.2.2.1 rfl rfl ?_
    refine g_iconst (pc := 17) (0 : Int32) dd_Reader_takeWant_0.2.2.2.2.2.2.2.2.2.2.2.1 (by decide) ?_
    refine g_iconst (pc := 18) (4 : Int32) dd_Reader_takeWant_0.2.2.2.2.2.2.2.2.2.2.2.2.1 (by decide) ?_
    obtain ⟨u9, e8, hf⟩ := bd1_e hf
    obtain ⟨x12, h10, e11, hf⟩ := bd2_e hf
    refine g_callV (pc := 19) (ci := 3) [.int (0 : Int32), .int (4 : Int32)] (site_of si_Reader_takeNumber (by decide) (by decide)) wd_438 wd_440 wp_8 dd_Reader_takeWant_0.2.2.2.2.2.2.2.2.2.2.2.2.2.1 rfl e8 (Nat.le_of_ble_eq_true rfl) (fun z => absurd z si_na_Reader_takeNumber) (fun z => absurd z si_na_Reader_takeNumber) (fun z => absurd z si_na_Reader_takeNumber) (c_Reader_takeNumber e11) rfl ?_
    refine g_st [.int x12] rfl ?_
    refine g_ifeq (pc := 22) 55 dd_Reader_takeWant_0.2.2.2.2.2.2.2.2.2.2.2.2.2.2.1 (by decide) (fun c33 => ?_) (fun c33 => ?_)
    · replace hf := (if_pos c33).symm.trans hf
      refine g_lv [] rfl ?_
      exact t_Reader_takeWant_55  _ _ _  hf
    · replace hf := (if_neg c33).symm.trans hf
      refine g_aload_n (pc := 25) 1 dd_Reader_takeWant_0.2.2.2.2.2.2.2.2.2.2.2.2.2.2.2.1 rfl rfl ?_
      refine g_aload_n (pc := 26) 2 dd_Reader_takeWant_0.2.2.2.2.2.2.2.2.2.2.2.2.2.2.2.2.1 rfl rfl ?_
      obtain ⟨x13, e14, hf⟩ := bd1_e hf
      refine g_get (pc := 27) (ci := 4) (kk := 16) dd_Reader_takeWant_0.2.2.2.2.2.2.2.2.2.2.2.2.2.2.2.2.2.1 rfl in_Realm (by decide) wd_150 (gR_spec e14) ?_
      refine g_iload_n (pc := 30) 0 dd_Reader_takeWant_0.2.2.2.2.2.2.2.2.2.2.2.2.2.2.2.2.2.2.1 rfl rfl ?_
      obtain ⟨u16, e15, hf⟩ := bd1_e hf
      obtain ⟨x19, h17, e18, hf⟩ := bd2_e hf
      refine g_callV (pc := 31) (ci := 3) [.ref x13, .int x6] (site_of si_Reader_addLaw (by decide) (by decide)) wd_464 wd_466 wp_14 dd_Reader_takeWant_0.2.2.2.2.2.2.2.2.2.2.2.2.2.2.2.2.2.2.2.1 rfl e15 (Nat.le_of_ble_eq_true rfl) (fun z => absurd z si_na_Reader_addLaw) (fun z => absurd z si_na_Reader_addLaw) (fun z => absurd z si_na_Reader_addLaw) (c_Reader_addLaw e18) rfl ?_
      refine g_st [.int x19] rfl ?_
      refine g_ifeq (pc := 34) 55 dd_Reader_takeWant_0.2.2.2.2.2.2.2.2.2.2.2.2.2.2.2.2.2.2.2.2.1 (by decide) (fun c32 => ?_) (fun c32 => ?_)
      · replace hf := (if_pos c32).symm.trans hf
        refine g_lv [] rfl ?_
        exact t_Reader_takeWant_55  _ _ _  hf
      · replace hf := (if_neg c32).symm.trans hf
        refine g_aload_n (pc := 37) 1 dd_Reader_takeWant_0.2.2.2.2.2.2.2.2.2.2.2.2.2.2.2.2.2.2.2.2.2.1 rfl rfl ?_
        obtain ⟨u21, e20, hf⟩ := bd1_e hf
        obtain ⟨x24, h22, e23, hf⟩ := bd2_e hf
        refine g_callV (pc := 38) (ci := 3) [] (site_of si_Reader_takeToken (by decide) (by decide)) wd_357 wd_359 wp_0 dd_Reader_takeWant_0.2.2.2.2.2.2.2.2.2.2.2.2.2.2.2.2.2.2.2.2.2.2.1 rfl e20 (Nat.le_of_ble_eq_true rfl) (fun z => absurd z si_na_Reader_takeToken) (fun z => absurd z si_na_Reader_takeToken) (fun z => absurd z si_na_Reader_takeToken) (c_Reader_takeToken e23) rfl ?_
        refine g_st [.int x24] rfl ?_
        refine g_ifeq (pc := 41) 55 dd_Reader_takeWant_0.2.2.2.2.2.2.2.2.2.2.2.2.2.2.2.2.2.2.2.2.2.2.2 (by decide) (fun c31 => ?_) (fun c31 => ?_)
        · replace hf := (if_pos c31).symm.trans hf
          refine g_lv [] rfl ?_
          exact t_Reader_takeWant_55  _ _ _  hf
        · replace hf := (if_neg c31).symm.trans hf
          refine g_aload_n (pc := 44) 1 dd_Reader_takeWant_44.1 rfl rfl ?_
          obtain ⟨u26, e25, hf⟩ := bd1_e hf
          obtain ⟨x29, h27, e28, hf⟩ := bd2_e hf
          refine g_callV (pc := 45) (ci := 3) [] (site_of si_Reader_isStop (by decide) (by decide)) wd_455 wd_457 wp_12 dd_Reader_takeWant_44.2.1 rfl e25 (Nat.le_of_ble_eq_true rfl) (fun z => absurd z si_na_Reader_isStop) (fun z => absurd z si_na_Reader_isStop) (fun z => absurd z si_na_Reader_isStop) (c_Reader_isStop e28) rfl ?_
          refine g_st [.int x29] rfl ?_
          refine g_ifeq (pc := 48) 55 dd_Reader_takeWant_44.2.2.1 (by decide) (fun c30 => ?_) (fun c30 => ?_)
          · replace hf := (if_pos c30).symm.trans hf
            refine g_lv [] rfl ?_
            exact t_Reader_takeWant_55  _ _ _  hf
          · replace hf := (if_neg c30).symm.trans hf
            refine g_iconst (pc := 51) (1 : Int32) dd_Reader_takeWant_44.2.2.2.1 (by decide) ?_
            refine g_goto (pc := 52) 56 dd_Reader_takeWant_44.2.2.2.2.1 (by decide) ?_
            obtain ⟨rfl, rfl⟩ := ret2 hf
            exact g_zret (pc := 56) rfl rfl dd_Reader_takeWant_44.2.2.2.2.2.2
  · replace hf := (if_pos c34).symm.trans hf
    refine g_iconst (pc := 9) (0 : Int32) dd_Reader_takeWant_0.2.2.2.2.2.1 (by decide) ?_
    obtain ⟨rfl, rfl⟩ := ret2 hf
    exact g_zret (pc := 10) rfl rfl dd_Reader_takeWant_0.2.2.2.2.2.2.1
def f_Reader_takeWant (a0 : Nat) (a1 : Nat) (h : mH) : Option (Int32 × mH) := f_Reader_takeWant_0 a0 a1 h
theorem c_Reader_takeWant {sc : Nat × (Nat → Int32)} {a0 : Nat} {a1 : Nat} {h : mH} {r : Int32} {h' : mH} (hf : f_Reader_takeWant a0 a1 h = some (r, h')) : MM sc y_Reader_takeWant prog_4_method_8_code 3 (some .boolean) 3 66 [.ref a0, .ref a1] h (some (.int r)) h' :=
  mm_of_G si_pn_Reader (Nat.le_of_ble_eq_true rfl) (t_Reader_takeWant_0 _ _ _ _ _ hf)
/-! Reader takeWatch (LQuotaLaws$Realm;)Z -/
set_option maxRecDepth 100000 in
theorem dd_Reader_takeWatch_0 : (decode prog_4_method_9_code 0 = .ok (.aload_n 0, 1)) ∧ (decode prog_4_method_9_code 1 = .ok (.iconst 0, 1)) ∧ (decode prog_4_method_9_code 2 = .ok (.iconst 4, 1)) ∧ (decode prog_4_method_9_code 3 = .ok (.invokevirtual 95, 3)) ∧ (decode prog_4_method_9_code 6 = .ok (.ifCond .ne 5, 3)) ∧ (decode prog_4_method_9_code 9 = .ok (.iconst 0, 1)) ∧ (decode prog_4_method_9_code 10 = .ok (.ireturn, 1)) ∧ (decode prog_4_method_9_code 11 = .ok (.aload_n 1, 1)) ∧ (decode prog_4_method_9_code 12 = .ok (.getfield 147, 3)) ∧ (decode prog_4_method_9_code 15 = .ok (.aload_n 0, 1)) ∧ (decode prog_4_method_9_code 16 = .ok (.getfield 123, 3)) ∧ (decode prog_4_method_9_code 19 = .ok (.invokestatic 150, 3)) ∧ (decode prog_4_method_9_code 22 = .ok (.ifCond .eq 13, 3)) ∧ (decode prog_4_method_9_code 25 = .ok (.aload_n 0, 1)) ∧ (decode prog_4_method_9_code 26 = .ok (.iconst 4, 1)) ∧ (decode prog_4_method_9_code 27 = .ok (.aload_n 0, 1)) ∧ (decode prog_4_method_9_code 28 = .ok (.getfield 85, 3)) ∧ (decode prog_4_method_9_code 31 = .ok (.invokevirtual 50, 3)) ∧ (decode prog_4_method_9_code 34 = .ok (.ireturn, 1)) ∧ (decode prog_4_method_9_code 35 = .ok (.aload_n 1, 1)) ∧ (decode prog_4_method_9_code 36 = .ok (.dup, 1)) ∧ (decode prog_4_method_9_code 37 = .ok (.getfield 147, 3)) ∧ (decode prog_4_method_9_code 40 = .ok (.iconst 1, 1)) ∧ (decode prog_4_method_9_code 41 = .ok (.aload_n 0, 1)) := by
  have h : List.drop 0 prog_4_method_9_code.data.toList = 0x2a :: _ := rfl
  refine ⟨zq_k_n 42 h rfl (zq_o_42 _), ?_⟩
  replace h := zq_nx1 (q := 1) h rfl
  refine ⟨zq_k_n 3 h rfl (zq_o_3 _), ?_⟩
  replace h := zq_nx1 (q := 2) h rfl
  refine ⟨zq_k_n 7 h rfl (zq_o_7 _), ?_⟩
  replace h := zq_nx1 (q := 3) h rfl
  refine ⟨zq_k_u2 182 (fun z => .invokevirtual z) 95 h rfl (zq_o_182 _) (by decide +kernel), ?_⟩
  replace h := zq_nx3 (q := 6) h rfl
  refine ⟨zq_k_s2 154 (fun z => .ifCond .ne z) 5 h rfl (zq_o_154 _) (by decide +kernel), ?_⟩
  replace h := zq_nx3 (q := 9) h rfl
  refine ⟨zq_k_n 3 h rfl (zq_o_3 _), ?_⟩
  replace h := zq_nx1 (q := 10) h rfl
  refine ⟨zq_k_n 172 h rfl (zq_o_172 _), ?_⟩
  replace h := zq_nx1 (q := 11) h rfl
  refine ⟨zq_k_n 43 h rfl (zq_o_43 _), ?_⟩
  replace h := zq_nx1 (q := 12) h rfl
  refine ⟨zq_k_u2 180 (fun z => .getfield z) 147 h rfl (zq_o_180 _) (by decide +kernel), ?_⟩
  replace h := zq_nx3 (q := 15) h rfl
  refine ⟨zq_k_n 42 h rfl (zq_o_42 _), ?_⟩
  replace h := zq_nx1 (q := 16) h rfl
  refine ⟨zq_k_u2 180 (fun z => .getfield z) 123 h rfl (zq_o_180 _) (by decide +kernel), ?_⟩
  replace h := zq_nx3 (q := 19) h rfl
  refine ⟨zq_k_u2 184 (fun z => .invokestatic z) 150 h rfl (zq_o_184 _) (by decide +kernel), ?_⟩
  replace h := zq_nx3 (q := 22) h rfl
  refine ⟨zq_k_s2 153 (fun z => .ifCond .eq z) 13 h rfl (zq_o_153 _) (by decide +kernel), ?_⟩
  replace h := zq_nx3 (q := 25) h rfl
  refine ⟨zq_k_n 42 h rfl (zq_o_42 _), ?_⟩
  replace h := zq_nx1 (q := 26) h rfl
  refine ⟨zq_k_n 7 h rfl (zq_o_7 _), ?_⟩
  replace h := zq_nx1 (q := 27) h rfl
  refine ⟨zq_k_n 42 h rfl (zq_o_42 _), ?_⟩
  replace h := zq_nx1 (q := 28) h rfl
  refine ⟨zq_k_u2 180 (fun z => .getfield z) 85 h rfl (zq_o_180 _) (by decide +kernel), ?_⟩
  replace h := zq_nx3 (q := 31) h rfl
  refine ⟨zq_k_u2 182 (fun z => .invokevirtual z) 50 h rfl (zq_o_182 _) (by decide +kernel), ?_⟩
  replace h := zq_nx3 (q := 34) h rfl
  refine ⟨zq_k_n 172 h rfl (zq_o_172 _), ?_⟩
  replace h := zq_nx1 (q := 35) h rfl
  refine ⟨zq_k_n 43 h rfl (zq_o_43 _), ?_⟩
  replace h := zq_nx1 (q := 36) h rfl
  refine ⟨zq_k_n 89 h rfl (zq_o_89 _), ?_⟩
  replace h := zq_nx1 (q := 37) h rfl
  refine ⟨zq_k_u2 180 (fun z => .getfield z) 147 h rfl (zq_o_180 _) (by decide +kernel), ?_⟩
  replace h := zq_nx3 (q := 40) h rfl
  refine ⟨zq_k_n 4 h rfl (zq_o_4 _), ?_⟩
  replace h := zq_nx1 (q := 41) h rfl
  exact zq_k_n 42 h rfl (zq_o_42 _)
set_option maxRecDepth 100000 in
theorem dd_Reader_takeWatch_42 : (decode prog_4_method_9_code 42 = .ok (.getfield 123, 3)) ∧ (decode prog_4_method_9_code 45 = .ok (.ishl, 1)) ∧ (decode prog_4_method_9_code 46 = .ok (.ior, 1)) ∧ (decode prog_4_method_9_code 47 = .ok (.putfield 147, 3)) ∧ (decode prog_4_method_9_code 50 = .ok (.aload_n 0, 1)) ∧ (decode prog_4_method_9_code 51 = .ok (.invokevirtual 36, 3)) ∧ (decode prog_4_method_9_code 54 = .ok (.ifCond .eq 14, 3)) ∧ (decode prog_4_method_9_code 57 = .ok (.aload_n 0, 1)) ∧ (decode prog_4_method_9_code 58 = .ok (.invokevirtual 117, 3)) ∧ (decode prog_4_method_9_code 61 = .ok (.ifCond .eq 7, 3)) ∧ (decode prog_4_method_9_code 64 = .ok (.iconst 1, 1)) ∧ (decode prog_4_method_9_code 65 = .ok (.goto 4, 3)) ∧ (decode prog_4_method_9_code 68 = .ok (.iconst 0, 1)) ∧ (decode prog_4_method_9_code 69 = .ok (.ireturn, 1)) := by
  have h : List.drop 42 prog_4_method_9_code.data.toList = 0xb4 :: _ := rfl
  refine ⟨zq_k_u2 180 (fun z => .getfield z) 123 h rfl (zq_o_180 _) (by decide +kernel), ?_⟩
  replace h := zq_nx3 (q := 45) h rfl
  refine ⟨zq_k_n 120 h rfl (zq_o_120 _), ?_⟩
  replace h := zq_nx1 (q := 46) h rfl
  refine ⟨zq_k_n 128 h rfl (zq_o_128 _), ?_⟩
  replace h := zq_nx1 (q := 47) h rfl
  refine ⟨zq_k_u2 181 (fun z => .putfield z) 147 h rfl (zq_o_181 _) (by decide +kernel), ?_⟩
  replace h := zq_nx3 (q := 50) h rfl
  refine ⟨zq_k_n 42 h rfl (zq_o_42 _), ?_⟩
  replace h := zq_nx1 (q := 51) h rfl
  refine ⟨zq_k_u2 182 (fun z => .invokevirtual z) 36 h rfl (zq_o_182 _) (by decide +kernel), ?_⟩
  replace h := zq_nx3 (q := 54) h rfl
  refine ⟨zq_k_s2 153 (fun z => .ifCond .eq z) 14 h rfl (zq_o_153 _) (by decide +kernel), ?_⟩
  replace h := zq_nx3 (q := 57) h rfl
  refine ⟨zq_k_n 42 h rfl (zq_o_42 _), ?_⟩
  replace h := zq_nx1 (q := 58) h rfl
  refine ⟨zq_k_u2 182 (fun z => .invokevirtual z) 117 h rfl (zq_o_182 _) (by decide +kernel), ?_⟩
  replace h := zq_nx3 (q := 61) h rfl
  refine ⟨zq_k_s2 153 (fun z => .ifCond .eq z) 7 h rfl (zq_o_153 _) (by decide +kernel), ?_⟩
  replace h := zq_nx3 (q := 64) h rfl
  refine ⟨zq_k_n 4 h rfl (zq_o_4 _), ?_⟩
  replace h := zq_nx1 (q := 65) h rfl
  refine ⟨zq_k_s2 167 (fun z => .goto z) 4 h rfl (zq_o_167 _) (by decide +kernel), ?_⟩
  replace h := zq_nx3 (q := 68) h rfl
  refine ⟨zq_k_n 3 h rfl (zq_o_3 _), ?_⟩
  replace h := zq_nx1 (q := 69) h rfl
  exact zq_k_n 172 h rfl (zq_o_172 _)
def f_Reader_takeWatch_68   (h : mH) : Option (Int32 × mH) :=
  some ((0 : Int32), h)
set_option maxRecDepth 20000 in
theorem t_Reader_takeWatch_68 {sc : Nat × (Nat → Int32)}   (h : mH) (r : Int32) (h' : mH) (hf : f_Reader_takeWatch_68   h = some (r, h')) : G sc y_Reader_takeWatch prog_4_method_9_code 2 (some .boolean) 3 66 68 [] [] h (some (.int r)) h' := by
  unfold f_Reader_takeWatch_68 at hf
  refine g_iconst (pc := 68) (0 : Int32) dd_Reader_takeWatch_42.2.2.2.2.2.2.2.2.2.2.2.2.1 (by decide) ?_
  obtain ⟨rfl, rfl⟩ := ret2 hf
  exact g_zret (pc := 69) rfl rfl dd_Reader_takeWatch_42.2.2.2.2.2.2.2.2.2.2.2.2.2
def f_Reader_takeWatch_0  (a0 : Nat) (a1 : Nat) (h : mH) : Option (Int32 × mH) :=
  bd1 (kC h a0 3) fun _ =>
  bd2 (f_Reader_takeNumber a0 (0 : Int32) (4 : Int32) h) fun x5 h3 =>
  if x5 = 0 then
    some ((0 : Int32), h3)
  else
    bd1 (gI h3 a1 4 5) fun x6 =>
    bd1 (gI h3 a0 3 8) fun x8 =>
    bd2 (f_Q_hasBit x6 x8 h3) fun x12 h10 =>
    if x12 = 0 then
      bd1 (gI h10 a1 4 5) fun x13 =>
      bd1 (gI h10 a0 3 8) fun x15 =>
      bd1 (pV h10 a1 4 5 (.int (x13 ||| ((1 : Int32) <<< (x15 &&& 31))))) fun h17 =>
      bd1 (kC h17 a0 3) fun _ =>
      bd2 (f_Reader_takeToken a0 h17) fun x23 h21 =>
      if x23 = 0 then
        f_Reader_takeWatch_68  h21
      else
        bd1 (kC h21 a0 3) fun _ =>
        bd2 (f_Reader_isStop a0 h21) fun x28 h26 =>
        if x28 = 0 then
          f_Reader_takeWatch_68  h26
        else
          some ((1 : Int32), h26)
    else
      bd1 (gI h10 a0 3 7) fun x31 =>
      bd1 (kC h10 a0 3) fun _ =>
      bd2 (f_Reader_fail a0 (4 : Int32) x31 h10) fun x37 h35 =>
      if x37 = 0 ∨ x37 = 1 then some (x37, h35) else none
set_option maxRecDepth 20000 in
theorem t_Reader_takeWatch_0 {sc : Nat × (Nat → Int32)}  (a0 : Nat) (a1 : Nat) (h : mH) (r : Int32) (h' : mH) (hf : f_Reader_takeWatch_0  a0 a1 h = some (r, h')) : G sc y_Reader_takeWatch prog_4_method_9_code 2 (some .boolean) 3 66 0 [(0, .ref a0), (1, .ref a1)] [] h (some (.int r)) h' := by
  unfold f_Reader_takeWatch_0 at hf
  refine g_aload_n (pc := 0) 0 dd_Reader_takeWatch_0.1 rfl rfl ?_
  refine g_iconst (pc := 1) (0 : Int32) dd_Reader_takeWatch_0.2.1 (by decide) ?_
  refine g_iconst (pc := 2) (4 : Int32) dd_Reader_takeWatch_0.2.2.1 (by decide) ?_
  obtain ⟨u2, e1, hf⟩ := bd1_e hf
  obtain ⟨x5, h3, e4, hf⟩ := bd2_e hf
  refine g_callV (pc := 3) (ci := 3) [.int (0 : Int32), .int (4 : Int32)] (site_of si_Reader_takeNumber (by decide) (by decide)) wd_438 wd_440 wp_8 dd_Reader_takeWatch_0.2.2.2.1 rfl e1 (Nat.le_of_ble_eq_true rfl) (fun z => absurd z si_na_Reader_takeNumber) (fun z => absurd z si_na_Reader_takeNumber) (fun z => absurd z si_na_Reader_takeNumber) (c_Reader_takeNumber e4) rfl ?_
  refine g_st [.int x5] rfl ?_
  refine g_ifne (pc := 6) 11 dd_Reader_takeWatch_0.2.2.2.2.1 (by decide) (fun c40 => ?_) (fun c40 => ?_)
  · replace hf := (if_neg c40).symm.trans hf
    refine g_aload_n (pc := 11) 1 dd_Reader_takeWatch_0.2.2.2.2.2.2.2.1 rfl rfl ?_
    obtain ⟨x6, e7, hf⟩ := bd1_e hf
    refine g_get (pc := 12) (ci := 4) (kk := 5) dd_Reader_takeWatch_0.2.2.2.2.2.2.2.2.1 rfl in_Realm (by decide) wd_112 (gI_spec e7) ?_
    refine g_aload_n (pc := 15) 0 dd_Reader_takeWatch_0.2.2.2.2.2.2.2.2.2.1 rfl rfl ?_
    obtain ⟨x8, e9, hf⟩ := bd1_e hf
    refine g_get (pc := 16) (ci := 3) (kk := 8) dd_Reader_takeWatch_0.2.2.2.2.2.2.2.2.2.2.1 rfl in_Reader (by decide) wd_44 (gI_spec e9) ?_
    obtain ⟨x12, h10, e11, hf⟩ := bd2_e hf
    refine g_callSN (pc := 19) "QuotaLaws" [.int x6, .int x8] (site_of si_Q_hasBit (by decide) (by decide)) wd_468 wd_469 dd_Reader_takeWatch_0.2.2.2.2.2.2.2.2.2.2.2.1 (Nat.le_of_ble_eq_true rfl) (fun z => absurd z si_na_Q_hasBit) (fun z => absurd z si_na_Q_hasBit) (fun z => absurd z si_na_Q_hasBit) (c_Q_hasBit e11) rfl ?_
    refine g_st [.int x12] rfl ?_
    refine g_ifeq (pc := 22) 35 dd_Reader_takeWatch_0.2.2.2.2.2.2.2.2.2.2.2.2.1 (by decide) (fun c39 => ?_) (fun c39 => ?_)
    · replace hf := (if_pos c39).symm.trans hf
      refine g_aload_n (pc := 35) 1 dd_Reader_takeWatch_0.2.2.2.2.2.2.2.2.2.2.2.2.2.2.2.2.2.2.2.1 rfl rfl ?_
      refine g_dup (pc := 36) dd_Reader_takeWatch_0.2.2.2.2.2.2.2.2.2.2.2.2.2.2.2.2.2.2.2.2.1 rfl ?_
      obtain ⟨x13, e14, hf⟩ := bd1_e hf
      refine g_get (pc := 37) (ci := 4) (kk := 5) dd_Reader_takeWatch_0.2.2.2.2.2.2.2.2.2.2.2.2.2.2.2.2.2.2.2.2.2.1 rfl in_Realm (by decide) wd_112 (gI_spec e14) ?_
      refine g_iconst (pc := 40) (1 : Int32) dd_Reader_takeWatch_0.2.2.2.2.2.2.2.2.2.2.2.2.2.2.2.2.2.2.2.2.2.2.1 (by decide) ?_
      refine g_aload_n (pc := 41) 0 dd_Reader_takeWatch_0.2.2.2.2.2.2.2.2.2.2.2.2.2.2.2.2.2.2.2.2.2.2.2 rfl rfl ?_
      obtain ⟨x15, e16, hf⟩ := bd1_e hf
      refine g_get (pc := 42) (ci := 3) (kk := 8) dd_Reader_takeWatch_42.1 rfl in_Reader (by decide) wd_44 (gI_spec e16) ?_
      refine g_ishl (pc := 45) dd_Reader_takeWatch_42.2.1 ?_
      refine g_ior (pc := 46) dd_Reader_takeWatch_42.2.2.1 ?_
      obtain ⟨h17, e18, hf⟩ := bd1_e hf
      refine g_put (pc := 47) (ci := 4) (kk := 5) ty_Realm tyok_Realm nm_Realm dd_Reader_takeWatch_42.2.2.2.1 rfl in_Realm (by decide) wd_112 rfl (fun _ => rfl) (fun _ => rfl) (fun _ z => by cases z) e18 ?_
      refine g_aload_n (pc := 50) 0 dd_Reader_takeWatch_42.2.2.2.2.1 rfl rfl ?_
      obtain ⟨u20, e19, hf⟩ := bd1_e hf
      obtain ⟨x23, h21, e22, hf⟩ := bd2_e hf
      refine g_callV (pc := 51) (ci := 3) [] (site_of si_Reader_takeToken (by decide) (by decide)) wd_357 wd_359 wp_0 dd_Reader_takeWatch_42.2.2.2.2.2.1 rfl e19 (Nat.le_of_ble_eq_true rfl) (fun z => absurd z si_na_Reader_takeToken) (fun z => absurd z si_na_Reader_takeToken) (fun z => absurd z si_na_Reader_takeToken) (c_Reader_takeToken e22) rfl ?_
      refine g_st [.int x23] rfl ?_
      refine g_ifeq (pc := 54) 68 dd_Reader_takeWatch_42.2.2.2.2.2.2.1 (by decide) (fun c30 => ?_) (fun c30 => ?_)
      · replace hf := (if_pos c30).symm.trans hf
        refine g_lv [] rfl ?_
        exact t_Reader_takeWatch_68  _ _ _  hf
      · replace hf := (if_neg c30).symm.trans hf
        refine g_aload_n (pc := 57) 0 dd_Reader_takeWatch_42.2.2.2.2.2.2.2.1 rfl rfl ?_
        obtain ⟨u25, e24, hf⟩ := bd1_e hf
        obtain ⟨x28, h26, e27, hf⟩ := bd2_e hf
        refine g_callV (pc := 58) (ci := 3) [] (site_of si_Reader_isStop (by decide) (by decide)) wd_455 wd_457 wp_12 dd_Reader_takeWatch_42.2.2.2.2.2.2.2.2.1 rfl e24 (Nat.le_of_ble_eq_true rfl) (fun z => absurd z si_na_Reader_isStop) (fun z => absurd z si_na_Reader_isStop) (fun z => absurd z si_na_Reader_isStop) (c_Reader_isStop e27) rfl ?_
        refine g_st [.int x28] rfl ?_
        refine g_ifeq (pc := 61) 68 dd_Reader_takeWatch_42.2.2.2.2.2.2.2.2.2.1 (by decide) (fun c29 => ?_) (fun c29 => ?_)
        · replace hf := (if_pos c29).symm.trans hf
          refine g_lv [] rfl ?_
          exact t_Reader_takeWatch_68  _ _ _  hf
        · replace hf := (if_neg c29).symm.trans hf
          refine g_iconst (pc := 64) (1 : Int32) dd_Reader_takeWatch_42.2.2.2.2.2.2.2.2.2.2.1 (by decide) ?_
          refine g_goto (pc := 65) 69 dd_Reader_takeWatch_42.2.2.2.2.2.2.2.2.2.2.2.1 (by decide) ?_
          obtain ⟨rfl, rfl⟩ := ret2 hf
          exact g_zret (pc := 69) rfl rfl dd_Reader_takeWatch_42.2.2.2.2.2.2.2.2.2.2.2.2.2
    · replace hf := (if_neg c39).symm.trans hf
      refine g_aload_n (pc := 25) 0 dd_Reader_takeWatch_0.2.2.2.2.2.2.2.2.2.2.2.2.2.1 rfl rfl ?_
      refine g_iconst (pc := 26) (4 : Int32) dd_Reader_takeWatch_0.2.2.2.2.2.2.2.2.2.2.2.2.2.2.1 (by decide) ?_
      refine g_aload_n (pc := 27) 0 dd_Reader_takeWatch_0.2.2.2.2.2.2.2.2.2.2.2.2.2.2.2.1 rfl rfl ?_
      obtain ⟨x31, e32, hf⟩ := bd1_e hf
      refine g_get (pc := 28) (ci := 3) (kk := 7) dd_Reader_takeWatch_0.2.2.2.2.2.2.2.2.2.2.2.2.2.2.2.2.1 rfl in_Reader (by decide) wd_43 (gI_spec e32) ?_
      obtain ⟨u34, e33, hf⟩ := bd1_e hf
      obtain ⟨x37, h35, e36, hf⟩ := bd2_e hf
      refine g_callV (pc := 31) (ci := 3) [.int (4 : Int32), .int x31] (site_of si_Reader_fail (by decide) (by decide)) wd_373 wd_375 wp_4 dd_Reader_takeWatch_0.2.2.2.2.2.2.2.2.2.2.2.2.2.2.2.2.2.1 rfl e33 (Nat.le_of_ble_eq_true rfl) (fun z => absurd z si_na_Reader_fail) (fun z => absurd z si_na_Reader_fail) (fun z => absurd z si_na_Reader_fail) (c_Reader_fail e36) rfl ?_
      refine g_st [.int x37] rfl ?_
      by_cases c38 : x37 = 0 ∨ x37 = 1
      · replace hf := (if_pos c38).symm.trans hf
        obtain ⟨rfl, rfl⟩ := ret2 hf
        exact g_zret (pc := 34) rfl (nar_z c38) dd_Reader_takeWatch_0.2.2.2.2.2.2.2.2.2.2.2.2.2.2.2.2.2.2.1
      · exact absurd ((if_neg c38).symm.trans hf) (by simp)
  · replace hf := (if_pos c40).symm.trans hf
    refine g_iconst (pc := 9) (0 : Int32) dd_Reader_takeWatch_0.2.2.2.2.2.1 (by decide) ?_
    obtain ⟨rfl, rfl⟩ := ret2 hf
    exact g_zret (pc := 10) rfl rfl dd_Reader_takeWatch_0.2.2.2.2.2.2.1
def f_Reader_takeWatch (a0 : Nat) (a1 : Nat) (h : mH) : Option (Int32 × mH) := f_Reader_takeWatch_0 a0 a1 h
theorem c_Reader_takeWatch {sc : Nat × (Nat → Int32)} {a0 : Nat} {a1 : Nat} {h : mH} {r : Int32} {h' : mH} (hf : f_Reader_takeWatch a0 a1 h = some (r, h')) : MM sc y_Reader_takeWatch prog_4_method_9_code 2 (some .boolean) 3 66 [.ref a0, .ref a1] h (some (.int r)) h' :=
  mm_of_G si_pn_Reader (Nat.le_of_ble_eq_true rfl) (t_Reader_takeWatch_0 _ _ _ _ _ hf)
/-! Reader takeLine (LQuotaLaws$Realm;)Z -/
set_option maxRecDepth 100000 in
theorem dd_Reader_takeLine_0 : (decode prog_4_method_4_code 0 = .ok (.aload_n 0, 1)) ∧ (decode prog_4_method_4_code 1 = .ok (.ldc 54, 2)) ∧ (decode prog_4_method_4_code 3 = .ok (.invokevirtual 56, 3)) ∧ (decode prog_4_method_4_code 6 = .ok (.ifCond .eq 13, 3)) ∧ (decode prog_4_method_4_code 9 = .ok (.aload_n 0, 1)) ∧ (decode prog_4_method_4_code 10 = .ok (.aload_n 1, 1)) ∧ (decode prog_4_method_4_code 11 = .ok (.aload_n 1, 1)) ∧ (decode prog_4_method_4_code 12 = .ok (.getfield 60, 3)) ∧ (decode prog_4_method_4_code 15 = .ok (.invokevirtual 63, 3)) ∧ (decode prog_4_method_4_code 18 = .ok (.ireturn, 1)) ∧ (decode prog_4_method_4_code 19 = .ok (.aload_n 0, 1)) ∧ (decode prog_4_method_4_code 20 = .ok (.ldc 67, 2)) ∧ (decode prog_4_method_4_code 22 = .ok (.invokevirtual 56, 3)) ∧ (decode prog_4_method_4_code 25 = .ok (.ifCond .eq 13, 3)) ∧ (decode prog_4_method_4_code 28 = .ok (.aload_n 0, 1)) ∧ (decode prog_4_method_4_code 29 = .ok (.aload_n 1, 1)) ∧ (decode prog_4_method_4_code 30 = .ok (.aload_n 1, 1)) ∧ (decode prog_4_method_4_code 31 = .ok (.getfield 69, 3)) ∧ (decode prog_4_method_4_code 34 = .ok (.invokevirtual 72, 3)) ∧ (decode prog_4_method_4_code 37 = .ok (.ireturn, 1)) ∧ (decode prog_4_method_4_code 38 = .ok (.aload_n 0, 1)) ∧ (decode prog_4_method_4_code 39 = .ok (.ldc 75, 2)) ∧ (decode prog_4_method_4_code 41 = .ok (.invokevirtual 56, 3)) ∧ (decode prog_4_method_4_code 44 = .ok (.ifCond .eq 9, 3)) := by
  have h : List.drop 0 prog_4_method_4_code.data.toList = 0x2a :: _ := rfl
  refine ⟨zq_k_n 42 h rfl (zq_o_42 _), ?_⟩
  replace h := zq_nx1 (q := 1) h rfl
  refine ⟨zq_k_u1 18 (fun z => .ldc z) 54 h rfl (zq_o_18 _) (by decide +kernel), ?_⟩
  replace h := zq_nx2 (q := 3) h rfl
  refine ⟨zq_k_u2 182 (fun z => .invokevirtual z) 56 h rfl (zq_o_182 _) (by decide +kernel), ?_⟩
  replace h := zq_nx3 (q := 6) h rfl
  refine ⟨zq_k_s2 153 (fun z => .ifCond .eq z) 13 h rfl (zq_o_153 _) (by decide +kernel), ?_⟩
  replace h := zq_nx3 (q := 9) h rfl
  refine ⟨zq_k_n 42 h rfl (zq_o_42 _), ?_⟩
  replace h := zq_nx1 (q := 10) h rfl
  refine ⟨zq_k_n 43 h rfl (zq_o_43 _), ?_⟩
  replace h := zq_nx1 (q := 11) h rfl
  refine ⟨zq_k_n 43 h rfl (zq_o_43 _), ?_⟩
  replace h := zq_nx1 (q := 12) h rfl
  refine ⟨zq_k_u2 180 (fun z => .getfield z) 60 h rfl (zq_o_180 _) (by decide +kernel), ?_⟩
  replace h := zq_nx3 (q := 15) h rfl
  refine ⟨zq_k_u2 182 (fun z => .invokevirtual z) 63 h rfl (zq_o_182 _) (by decide +kernel), ?_⟩
  replace h := zq_nx3 (q := 18) h rfl
  refine ⟨zq_k_n 172 h rfl (zq_o_172 _), ?_⟩
  replace h := zq_nx1 (q := 19) h rfl
  refine ⟨zq_k_n 42 h rfl (zq_o_42 _), ?_⟩
  replace h := zq_nx1 (q := 20) h rfl
  refine ⟨zq_k_u1 18 (fun z => .ldc z) 67 h rfl (zq_o_18 _) (by decide +kernel), ?_⟩
  replace h := zq_nx2 (q := 22) h rfl
  refine ⟨zq_k_u2 182 (fun z => .invokevirtual z) 56 h rfl (zq_o_182 _) (by decide +kernel), ?_⟩
  replace h := zq_nx3 (q := 25) h rfl
  refine ⟨zq_k_s2 153 (fun z => .ifCond .eq z) 13 h rfl (zq_o_153 _) (by decide +kernel), ?_⟩
  replace h := zq_nx3 (q := 28) h rfl
  refine ⟨zq_k_n 42 h rfl (zq_o_42 _), ?_⟩
  replace h := zq_nx1 (q := 29) h rfl
  refine ⟨zq_k_n 43 h rfl (zq_o_43 _), ?_⟩
  replace h := zq_nx1 (q := 30) h rfl
  refine ⟨zq_k_n 43 h rfl (zq_o_43 _), ?_⟩
  replace h := zq_nx1 (q := 31) h rfl
  refine ⟨zq_k_u2 180 (fun z => .getfield z) 69 h rfl (zq_o_180 _) (by decide +kernel), ?_⟩
  replace h := zq_nx3 (q := 34) h rfl
  refine ⟨zq_k_u2 182 (fun z => .invokevirtual z) 72 h rfl (zq_o_182 _) (by decide +kernel), ?_⟩
  replace h := zq_nx3 (q := 37) h rfl
  refine ⟨zq_k_n 172 h rfl (zq_o_172 _), ?_⟩
  replace h := zq_nx1 (q := 38) h rfl
  refine ⟨zq_k_n 42 h rfl (zq_o_42 _), ?_⟩
  replace h := zq_nx1 (q := 39) h rfl
  refine ⟨zq_k_u1 18 (fun z => .ldc z) 75 h rfl (zq_o_18 _) (by decide +kernel), ?_⟩
  replace h := zq_nx2 (q := 41) h rfl
  refine ⟨zq_k_u2 182 (fun z => .invokevirtual z) 56 h rfl (zq_o_182 _) (by decide +kernel), ?_⟩
  replace h := zq_nx3 (q := 44) h rfl
  exact zq_k_s2 153 (fun z => .ifCond .eq z) 9 h rfl (zq_o_153 _) (by decide +kernel)
set_option maxRecDepth 100000 in
theorem dd_Reader_takeLine_47 : (decode prog_4_method_4_code 47 = .ok (.aload_n 0, 1)) ∧ (decode prog_4_method_4_code 48 = .ok (.aload_n 1, 1)) ∧ (decode prog_4_method_4_code 49 = .ok (.invokevirtual 77, 3)) ∧ (decode prog_4_method_4_code 52 = .ok (.ireturn, 1)) ∧ (decode prog_4_method_4_code 53 = .ok (.aload_n 0, 1)) ∧ (decode prog_4_method_4_code 54 = .ok (.ldc 80, 2)) ∧ (decode prog_4_method_4_code 56 = .ok (.invokevirtual 56, 3)) ∧ (decode prog_4_method_4_code 59 = .ok (.ifCond .eq 11, 3)) ∧ (decode prog_4_method_4_code 62 = .ok (.aload_n 0, 1)) ∧ (decode prog_4_method_4_code 63 = .ok (.aload_n 1, 1)) ∧ (decode prog_4_method_4_code 64 = .ok (.invokevirtual 82, 3)) ∧ (decode prog_4_method_4_code 67 = .ok (.goto 12, 3)) ∧ (decode prog_4_method_4_code 70 = .ok (.aload_n 0, 1)) ∧ (decode prog_4_method_4_code 71 = .ok (.iconst 2, 1)) ∧ (decode prog_4_method_4_code 72 = .ok (.aload_n 0, 1)) ∧ (decode prog_4_method_4_code 73 = .ok (.getfield 85, 3)) ∧ (decode prog_4_method_4_code 76 = .ok (.invokevirtual 50, 3)) ∧ (decode prog_4_method_4_code 79 = .ok (.ireturn, 1)) := by
  have h : List.drop 47 prog_4_method_4_code.data.toList = 0x2a :: _ := rfl
  refine ⟨zq_k_n 42 h rfl (zq_o_42 _), ?_⟩
  replace h := zq_nx1 (q := 48) h rfl
  refine ⟨zq_k_n 43 h rfl (zq_o_43 _), ?_⟩
  replace h := zq_nx1 (q := 49) h rfl
  refine ⟨zq_k_u2 182 (fun z => .invokevirtual z) 77 h rfl (zq_o_182 _) (by decide +kernel), ?_⟩
  replace h := zq_nx3 (q := 52) h rfl
  refine ⟨zq_k_n 172 h rfl (zq_o_172 _), ?_⟩
  replace h := zq_nx1 (q := 53) h rfl
  refine ⟨zq_k_n 42 h rfl (zq_o_42 _), ?_⟩
  replace h := zq_nx1 (q := 54) h rfl
  refine ⟨zq_k_u1 18 (fun z => .ldc z) 80 h rfl (zq_o_18 _) (by decide +kernel), ?_⟩
  replace h := zq_nx2 (q := 56) h rfl
  refine ⟨zq_k_u2 182 (fun z => .invokevirtual z) 56 h rfl (zq_o_182 _) (by decide +kernel), ?_⟩
  replace h := zq_nx3 (q := 59) h rfl
  refine ⟨zq_k_s2 153 (fun z => .ifCond .eq z) 11 h rfl (zq_o_153 _) (by decide +kernel), ?_⟩
  replace h := zq_nx3 (q := 62) h rfl
  refine ⟨zq_k_n 42 h rfl (zq_o_42 _), ?_⟩
  replace h := zq_nx1 (q := 63) h rfl
  refine ⟨zq_k_n 43 h rfl (zq_o_43 _), ?_⟩
  replace h := zq_nx1 (q := 64) h rfl
  refine ⟨zq_k_u2 182 (fun z => .invokevirtual z) 82 h rfl (zq_o_182 _) (by decide +kernel), ?_⟩
  replace h := zq_nx3 (q := 67) h rfl
  refine ⟨zq_k_s2 167 (fun z => .goto z) 12 h rfl (zq_o_167 _) (by decide +kernel), ?_⟩
  replace h := zq_nx3 (q := 70) h rfl
  refine ⟨zq_k_n 42 h rfl (zq_o_42 _), ?_⟩
  replace h := zq_nx1 (q := 71) h rfl
  refine ⟨zq_k_n 5 h rfl (zq_o_5 _), ?_⟩
  replace h := zq_nx1 (q := 72) h rfl
  refine ⟨zq_k_n 42 h rfl (zq_o_42 _), ?_⟩
  replace h := zq_nx1 (q := 73) h rfl
  refine ⟨zq_k_u2 180 (fun z => .getfield z) 85 h rfl (zq_o_180 _) (by decide +kernel), ?_⟩
  replace h := zq_nx3 (q := 76) h rfl
  refine ⟨zq_k_u2 182 (fun z => .invokevirtual z) 50 h rfl (zq_o_182 _) (by decide +kernel), ?_⟩
  replace h := zq_nx3 (q := 79) h rfl
  exact zq_k_n 172 h rfl (zq_o_172 _)
def f_Reader_takeLine_0  (a0 : Nat) (a1 : Nat) (h : mH) : Option (Int32 × mH) :=
  bd1 (kC h a0 3) fun _ =>
  bd2 (f_Reader_isWord a0 1000 h) fun x5 h3 =>
  if x5 = 0 then
    bd1 (kC h3 a0 3) fun _ =>
    bd2 (f_Reader_isWord a0 1001 h3) fun x10 h8 =>
    if x10 = 0 then
      bd1 (kC h8 a0 3) fun _ =>
      bd2 (f_Reader_isWord a0 1002 h8) fun x15 h13 =>
      if x15 = 0 then
        bd1 (kC h13 a0 3) fun _ =>
        bd2 (f_Reader_isWord a0 1003 h13) fun x20 h18 =>
        if x20 = 0 then
          bd1 (gI h18 a0 3 7) fun x21 =>
          bd1 (kC h18 a0 3) fun _ =>
          bd2 (f_Reader_fail a0 (2 : Int32) x21 h18) fun x27 h25 =>
          if x27 = 0 ∨ x27 = 1 then some (x27, h25) else none
        else
          bd1 (kC h18 a0 3) fun _ =>
          bd2 (f_Reader_takeWatch a0 a1 h18) fun x33 h31 =>
          if x33 = 0 ∨ x33 = 1 then some (x33, h31) else none
      else
        bd1 (kC h13 a0 3) fun _ =>
        bd2 (f_Reader_takeWant a0 a1 h13) fun x40 h38 =>
        if x40 = 0 ∨ x40 = 1 then some (x40, h38) else none
    else
      bd1 (gI h8 a1 4 1) fun x43 =>
      bd1 (kC h8 a0 3) fun _ =>
      bd2 (f_Reader_takeOne a0 a1 x43 h8) fun x49 h47 =>
      if x49 = 0 ∨ x49 = 1 then some (x49, h47) else none
  else
    bd1 (gI h3 a1 4 0) fun x52 =>
    bd1 (kC h3 a0 3) fun _ =>
    bd2 (f_Reader_takeLaw a0 a1 x52 h3) fun x58 h56 =>
    if x58 = 0 ∨ x58 = 1 then some (x58, h56) else none
set_option maxRecDepth 20000 in
theorem t_Reader_takeLine_0 {sc : Nat × (Nat → Int32)}  (a0 : Nat) (a1 : Nat) (h : mH) (r : Int32) (h' : mH) (hf : f_Reader_takeLine_0  a0 a1 h = some (r, h')) : G sc y_Reader_takeLine prog_4_method_4_code 2 (some .boolean) 5 107 0 [(0, .ref a0), (1, .ref a1)] [] h (some (.int r)) h' := by
  unfold f_Reader_takeLine_0 at hf
  refine g_aload_n (pc := 0) 0 dd_Reader_takeLine_0.1 rfl rfl ?_
  refine g_ldcS (pc := 1) 0 dd_Reader_takeLine_0.2.1 rfl ?_
  obtain ⟨u2, e1, hf⟩ := bd1_e hf
  obtain ⟨x5, h3, e4, hf⟩ := bd2_e hf
  refine g_callV (pc := 3) (ci := 3) [.ref 1000] (site_of si_Reader_isWord (by decide) (by decide)) wd_382 wd_384 wp_6 dd_Reader_takeLine_0.2.2.1 rfl e1 (Nat.le_of_ble_eq_true rfl) (fun z => absurd z si_na_Reader_isWord) (fun z => absurd z si_na_Reader_isWord) (fun z => absurd z si_na_Reader_isWord) (c_Reader_isWord e4) rfl ?_
  refine g_st [.int x5] rfl ?_
  refine g_ifeq (pc := 6) 19 dd_Reader_takeLine_0.2.2.2.1 (by decide) (fun c60 => ?_) (fun c60 => ?_)
  · replace hf := (if_pos c60).symm.trans hf
    refine g_aload_n (pc := 19) 0 dd_Reader_takeLine_0.2.2.2.2.2.2.2.2.2.2.1 rfl rfl ?_
    refine g_ldcS (pc := 20) 1 dd_Reader_takeLine_0.2.2.2.2.2.2.2.2.2.2.2.1 rfl ?_
    obtain ⟨u7, e6, hf⟩ := bd1_e hf
    obtain ⟨x10, h8, e9, hf⟩ := bd2_e hf
    refine g_callV (pc := 22) (ci := 3) [.ref 1001] (site_of si_Reader_isWord (by decide) (by decide)) wd_382 wd_384 wp_6 dd_Reader_takeLine_0.2.2.2.2.2.2.2.2.2.2.2.2.1 rfl e6 (Nat.le_of_ble_eq_true rfl) (fun z => absurd z si_na_Reader_isWord) (fun z => absurd z si_na_Reader_isWord) (fun z => absurd z si_na_Reader_isWord) (c_Reader_isWord e9) rfl ?_
    refine g_st [.int x10] rfl ?_
    refine g_ifeq (pc := 25) 38 dd_Reader_takeLine_0.2.2.2.2.2.2.2.2.2.2.2.2.2.1 (by decide) (fun c51 => ?_) (fun c51 => ?_)
    · replace hf := (if_pos c51).symm.trans hf
      refine g_aload_n (pc := 38) 0 dd_Reader_takeLine_0.2.2.2.2.2.2.2.2.2.2.2.2.2.2.2.2.2.2.2.2.1 rfl rfl ?_
      refine g_ldcS (pc := 39) 2 dd_Reader_takeLine_0.2.2.2.2.2.2.2.2.2.2.2.2.2.2.2.2.2.2.2.2.2.1 rfl ?_
      obtain ⟨u12, e11, hf⟩ := bd1_e hf
      obtain ⟨x15, h13, e14, hf⟩ := bd2_e hf
      refine g_callV (pc := 41) (ci := 3) [.ref 1002] (site_of si_Reader_isWord (by decide) (by decide)) wd_382 wd_384 wp_6 dd_Reader_takeLine_0.2.2.2.2.2.2.2.2.2.2.2.2.2.2.2.2.2.2.2.2.2.2.1 rfl e11 (Nat.le_of_ble_eq_true rfl) (fun z => absurd z si_na_Reader_isWord) (fun z => absurd z si_na_Reader_isWord) (fun z => absurd z si_na_Reader_isWord) (c_Reader_isWord e14) rfl ?_
      refine g_st [.int x15] rfl ?_
      refine g_ifeq (pc := 44) 53 dd_Reader_takeLine_0.2.2.2.2.2.2.2.2.2.2.2.2.2.2.2.2.2.2.2.2.2.2.2 (by decide) (fun c42 => ?_) (fun c42 => ?_)
      · replace hf := (if_pos c42).symm.trans hf
        refine g_aload_n (pc := 53) 0 dd_Reader_takeLine_47.2.2.2.2.1 rfl rfl ?_
        refine g_ldcS (pc := 54) 3 dd_Reader_takeLine_47.2.2.2.2.2.1 rfl ?_
        obtain ⟨u17, e16, hf⟩ := bd1_e hf
        obtain ⟨x20, h18, e19, hf⟩ := bd2_e hf
        refine g_callV (pc := 56) (ci := 3) [.ref 1003] (site_of si_Reader_isWord (by decide) (by decide)) wd_382 wd_384 wp_6 dd_Reader_takeLine_47.2.2.2.2.2.2.1 rfl e16 (Nat.le_of_ble_eq_true rfl) (fun z => absurd z si_na_Reader_isWord) (fun z => absurd z si_na_Reader_isWord) (fun z => absurd z si_na_Reader_isWord) (c_Reader_isWord e19) rfl ?_
        refine g_st [.int x20] rfl ?_
        refine g_ifeq (pc := 59) 70 dd_Reader_takeLine_47.2.2.2.2.2.2.2.1 (by decide) (fun c35 => ?_) (fun c35 => ?_)
        · replace hf := (if_pos c35).symm.trans hf
          refine g_aload_n (pc := 70) 0 dd_Reader_takeLine_47.2.2.2.2.2.2.2.2.2.2.2.2.1 rfl rfl ?_
          refine g_iconst (pc := 71) (2 : Int32) dd_Reader_takeLine_47.2.2.2.2.2.2.2.2.2.2.2.2.2.1 (by decide) ?_
          refine g_aload_n (pc := 72) 0 dd_Reader_takeLine_47.2.2.2.2.2.2.2.2.2.2.2.2.2.2.1 rfl rfl ?_
          obtain ⟨x21, e22, hf⟩ := bd1_e hf
          refine g_get (pc := 73) (ci := 3) (kk := 7) dd_Reader_takeLine_47.2.2.2.2.2.2.2.2.2.2.2.2.2.2.2.1 rfl in_Reader (by decide) wd_43 (gI_spec e22) ?_
          obtain ⟨u24, e23, hf⟩ := bd1_e hf
          obtain ⟨x27, h25, e26, hf⟩ := bd2_e hf
          refine g_callV (pc := 76) (ci := 3) [.int (2 : Int32), .int x21] (site_of si_Reader_fail (by decide) (by decide)) wd_373 wd_375 wp_4 dd_Reader_takeLine_47.2.2.2.2.2.2.2.2.2.2.2.2.2.2.2.2.1 rfl e23 (Nat.le_of_ble_eq_true rfl) (fun z => absurd z si_na_Reader_fail) (fun z => absurd z si_na_Reader_fail) (fun z => absurd z si_na_Reader_fail) (c_Reader_fail e26) rfl ?_
          refine g_st [.int x27] rfl ?_
          by_cases c28 : x27 = 0 ∨ x27 = 1
          · replace hf := (if_pos c28).symm.trans hf
            obtain ⟨rfl, rfl⟩ := ret2 hf
            exact g_zret (pc := 79) rfl (nar_z c28) dd_Reader_takeLine_47.2.2.2.2.2.2.2.2.2.2.2.2.2.2.2.2.2
          · exact absurd ((if_neg c28).symm.trans hf) (by simp)
        · replace hf := (if_neg c35).symm.trans hf
          refine g_aload_n (pc := 62) 0 dd_Reader_takeLine_47.2.2.2.2.2.2.2.2.1 rfl rfl ?_
          refine g_aload_n (pc := 63) 1 dd_Reader_takeLine_47.2.2.2.2.2.2.2.2.2.1 rfl rfl ?_
          obtain ⟨u30, e29, hf⟩ := bd1_e hf
          obtain ⟨x33, h31, e32, hf⟩ := bd2_e hf
          refine g_callV (pc := 64) (ci := 3) [.ref a1] (site_of si_Reader_takeWatch (by decide) (by decide)) wd_477 wd_479 wp_16 dd_Reader_takeLine_47.2.2.2.2.2.2.2.2.2.2.1 rfl e29 (Nat.le_of_ble_eq_true rfl) (fun z => absurd z si_na_Reader_takeWatch) (fun z => absurd z si_na_Reader_takeWatch) (fun z => absurd z si_na_Reader_takeWatch) (c_Reader_takeWatch e32) rfl ?_
          refine g_st [.int x33] rfl ?_
          refine g_goto (pc := 67) 79 dd_Reader_takeLine_47.2.2.2.2.2.2.2.2.2.2.2.1 (by decide) ?_
          by_cases c34 : x33 = 0 ∨ x33 = 1
          · replace hf := (if_pos c34).symm.trans hf
            obtain ⟨rfl, rfl⟩ := ret2 hf
            exact g_zret (pc := 79) rfl (nar_z c34) dd_Reader_takeLine_47.2.2.2.2.2.2.2.2.2.2.2.2.2.2.2.2.2
          · exact absurd ((if_neg c34).symm.trans hf) (by simp)
      · replace hf := (if_neg c42).symm.trans hf
        refine g_aload_n (pc := 47) 0 dd_Reader_takeLine_47.1 rfl rfl ?_
        refine g_aload_n (pc := 48) 1 dd_Reader_takeLine_47.2.1 rfl rfl ?_
        obtain ⟨u37, e36, hf⟩ := bd1_e hf
        obtain ⟨x40, h38, e39, hf⟩ := bd2_e hf
        refine g_callV (pc := 49) (ci := 3) [.ref a1] (site_of si_Reader_takeWant (by decide) (by decide)) wd_472 wd_474 wp_15 dd_Reader_takeLine_47.2.2.1 rfl e36 (Nat.le_of_ble_eq_true rfl) (fun z => absurd z si_na_Reader_takeWant) (fun z => absurd z si_na_Reader_takeWant) (fun z => absurd z si_na_Reader_takeWant) (c_Reader_takeWant e39) rfl ?_
        refine g_st [.int x40] rfl ?_
        by_cases c41 : x40 = 0 ∨ x40 = 1
        · replace hf := (if_pos c41).symm.trans hf
          obtain ⟨rfl, rfl⟩ := ret2 hf
          exact g_zret (pc := 52) rfl (nar_z c41) dd_Reader_takeLine_47.2.2.2.1
        · exact absurd ((if_neg c41).symm.trans hf) (by simp)
    · replace hf := (if_neg c51).symm.trans hf
      refine g_aload_n (pc := 28) 0 dd_Reader_takeLine_0.2.2.2.2.2.2.2.2.2.2.2.2.2.2.1 rfl rfl ?_
      refine g_aload_n (pc := 29) 1 dd_Reader_takeLine_0.2.2.2.2.2.2.2.2.2.2.2.2.2.2.2.1 rfl rfl ?_
      refine g_aload_n (pc := 30) 1 dd_Reader_takeLine_0.2.2.2.2.2.2.2.2.2.2.2.2.2.2.2.2.1 rfl rfl ?_
      obtain ⟨x43, e44, hf⟩ := bd1_e hf
      refine g_get (pc := 31) (ci := 4) (kk := 1) dd_Reader_takeLine_0.2.2.2.2.2.2.2.2.2.2.2.2.2.2.2.2.2.1 rfl in_Realm (by decide) wd_101 (gI_spec e44) ?_
      obtain ⟨u46, e45, hf⟩ := bd1_e hf
      obtain ⟨x49, h47, e48, hf⟩ := bd2_e hf
      refine g_callV (pc := 34) (ci := 3) [.ref a1, .int x43] (site_of si_Reader_takeOne (by decide) (by decide)) wd_460 wd_462 wp_13 dd_Reader_takeLine_0.2.2.2.2.2.2.2.2.2.2.2.2.2.2.2.2.2.2.1 rfl e45 (Nat.le_of_ble_eq_true rfl) (fun z => absurd z si_na_Reader_takeOne) (fun z => absurd z si_na_Reader_takeOne) (fun z => absurd z si_na_Reader_takeOne) (c_Reader_takeOne e48) rfl ?_
      refine g_st [.int x49] rfl ?_
      by_cases c50 : x49 = 0 ∨ x49 = 1
      · replace hf := (if_pos c50).symm.trans hf
        obtain ⟨rfl, rfl⟩ := ret2 hf
        exact g_zret (pc := 37) rfl (nar_z c50) dd_Reader_takeLine_0.2.2.2.2.2.2.2.2.2.2.2.2.2.2.2.2.2.2.2.1
      · exact absurd ((if_neg c50).symm.trans hf) (by simp)
  · replace hf := (if_neg c60).symm.trans hf
    refine g_aload_n (pc := 9) 0 dd_Reader_takeLine_0.2.2.2.2.1 rfl rfl ?_
    refine g_aload_n (pc := 10) 1 dd_Reader_takeLine_0.2.2.2.2.2.1 rfl rfl ?_
    refine g_aload_n (pc := 11) 1 dd_Reader_takeLine_0.2.2.2.2.2.2.1 rfl rfl ?_
    obtain ⟨x52, e53, hf⟩ := bd1_e hf
    refine g_get (pc := 12) (ci := 4) (kk := 0) dd_Reader_takeLine_0.2.2.2.2.2.2.2.1 rfl in_Realm (by decide) wd_96 (gI_spec e53) ?_
    obtain ⟨u55, e54, hf⟩ := bd1_e hf
    obtain ⟨x58, h56, e57, hf⟩ := bd2_e hf
    refine g_callV (pc := 15) (ci := 3) [.ref a1, .int x52] (site_of si_Reader_takeLaw (by decide) (by decide)) wd_434 wd_436 wp_7 dd_Reader_takeLine_0.2.2.2.2.2.2.2.2.1 rfl e54 (Nat.le_of_ble_eq_true rfl) (fun z => absurd z si_na_Reader_takeLaw) (fun z => absurd z si_na_Reader_takeLaw) (fun z => absurd z si_na_Reader_takeLaw) (c_Reader_takeLaw e57) rfl ?_
    refine g_st [.int x58] rfl ?_
    by_cases c59 : x58 = 0 ∨ x58 = 1
    · replace hf := (if_pos c59).symm.trans hf
      obtain ⟨rfl, rfl⟩ := ret2 hf
      exact g_zret (pc := 18) rfl (nar_z c59) dd_Reader_takeLine_0.2.2.2.2.2.2.2.2.2.1
    · exact absurd ((if_neg c59).symm.trans hf) (by simp)
def f_Reader_takeLine (a0 : Nat) (a1 : Nat) (h : mH) : Option (Int32 × mH) := f_Reader_takeLine_0 a0 a1 h
theorem c_Reader_takeLine {sc : Nat × (Nat → Int32)} {a0 : Nat} {a1 : Nat} {h : mH} {r : Int32} {h' : mH} (hf : f_Reader_takeLine a0 a1 h = some (r, h')) : MM sc y_Reader_takeLine prog_4_method_4_code 2 (some .boolean) 5 107 [.ref a0, .ref a1] h (some (.int r)) h' :=
  mm_of_G si_pn_Reader (Nat.le_of_ble_eq_true rfl) (t_Reader_takeLine_0 _ _ _ _ _ hf)
/-! Q isPart (II)Z -/
set_option maxRecDepth 100000 in
theorem dd_Q_isPart_0 : (decode prog_1_method_45_code 0 = .ok (.iload_n 0, 1)) ∧ (decode prog_1_method_45_code 1 = .ok (.iload_n 1, 1)) ∧ (decode prog_1_method_45_code 2 = .ok (.iconst (-1), 1)) ∧ (decode prog_1_method_45_code 3 = .ok (.ixor, 1)) ∧ (decode prog_1_method_45_code 4 = .ok (.iand, 1)) ∧ (decode prog_1_method_45_code 5 = .ok (.ifCond .ne 7, 3)) ∧ (decode prog_1_method_45_code 8 = .ok (.iconst 1, 1)) ∧ (decode prog_1_method_45_code 9 = .ok (.goto 4, 3)) ∧ (decode prog_1_method_45_code 12 = .ok (.iconst 0, 1)) ∧ (decode prog_1_method_45_code 13 = .ok (.ireturn, 1)) := by
  have h : List.drop 0 prog_1_method_45_code.data.toList = 0x1a :: _ := rfl
  refine ⟨zq_k_n 26 h rfl (zq_o_26 _), ?_⟩
  replace h := zq_nx1 (q := 1) h rfl
  refine ⟨zq_k_n 27 h rfl (zq_o_27 _), ?_⟩
  replace h := zq_nx1 (q := 2) h rfl
  refine ⟨zq_k_n 2 h rfl (zq_o_2 _), ?_⟩
  replace h := zq_nx1 (q := 3) h rfl
  refine ⟨zq_k_n 130 h rfl (zq_o_130 _), ?_⟩
  replace h := zq_nx1 (q := 4) h rfl
  refine ⟨zq_k_n 126 h rfl (zq_o_126 _), ?_⟩
  replace h := zq_nx1 (q := 5) h rfl
  refine ⟨zq_k_s2 154 (fun z => .ifCond .ne z) 7 h rfl (zq_o_154 _) (by decide +kernel), ?_⟩
  replace h := zq_nx3 (q := 8) h rfl
  refine ⟨zq_k_n 4 h rfl (zq_o_4 _), ?_⟩
  replace h := zq_nx1 (q := 9) h rfl
  refine ⟨zq_k_s2 167 (fun z => .goto z) 4 h rfl (zq_o_167 _) (by decide +kernel), ?_⟩
  replace h := zq_nx3 (q := 12) h rfl
  refine ⟨zq_k_n 3 h rfl (zq_o_3 _), ?_⟩
  replace h := zq_nx1 (q := 13) h rfl
  exact zq_k_n 172 h rfl (zq_o_172 _)
def f_Q_isPart_0  (a0 : Int32) (a1 : Int32) (h : mH) : Option (Int32 × mH) :=
  if (a0 &&& (a1 ^^^ ((-1) : Int32))) = 0 then
    some ((1 : Int32), h)
  else
    some ((0 : Int32), h)
set_option maxRecDepth 20000 in
theorem t_Q_isPart_0 {sc : Nat × (Nat → Int32)}  (a0 : Int32) (a1 : Int32) (h : mH) (r : Int32) (h' : mH) (hf : f_Q_isPart_0  a0 a1 h = some (r, h')) : G sc y_Q_isPart prog_1_method_45_code 2 (some .boolean) 0 0 0 [(0, .int a0), (1, .int a1)] [] h (some (.int r)) h' := by
  unfold f_Q_isPart_0 at hf
  refine g_iload_n (pc := 0) 0 dd_Q_isPart_0.1 rfl rfl ?_
  refine g_iload_n (pc := 1) 1 dd_Q_isPart_0.2.1 rfl rfl ?_
  refine g_iconst (pc := 2) ((-1) : Int32) dd_Q_isPart_0.2.2.1 (by decide) ?_
  refine g_ixor (pc := 3) dd_Q_isPart_0.2.2.2.1 ?_
  refine g_iand (pc := 4) dd_Q_isPart_0.2.2.2.2.1 ?_
  refine g_ifne (pc := 5) 12 dd_Q_isPart_0.2.2.2.2.2.1 (by decide) (fun c1 => ?_) (fun c1 => ?_)
  · replace hf := (if_neg c1).symm.trans hf
    refine g_iconst (pc := 12) (0 : Int32) dd_Q_isPart_0.2.2.2.2.2.2.2.2.1 (by decide) ?_
    obtain ⟨rfl, rfl⟩ := ret2 hf
    exact g_zret (pc := 13) rfl rfl dd_Q_isPart_0.2.2.2.2.2.2.2.2.2
  · replace hf := (if_pos c1).symm.trans hf
    refine g_iconst (pc := 8) (1 : Int32) dd_Q_isPart_0.2.2.2.2.2.2.1 (by decide) ?_
    refine g_goto (pc := 9) 13 dd_Q_isPart_0.2.2.2.2.2.2.2.1 (by decide) ?_
    obtain ⟨rfl, rfl⟩ := ret2 hf
    exact g_zret (pc := 13) rfl rfl dd_Q_isPart_0.2.2.2.2.2.2.2.2.2
def f_Q_isPart (a0 : Int32) (a1 : Int32) (h : mH) : Option (Int32 × mH) := f_Q_isPart_0 a0 a1 h
theorem c_Q_isPart {sc : Nat × (Nat → Int32)} {a0 : Int32} {a1 : Int32} {h : mH} {r : Int32} {h' : mH} (hf : f_Q_isPart a0 a1 h = some (r, h')) : MM sc y_Q_isPart prog_1_method_45_code 2 (some .boolean) 0 0 [.int a0, .int a1] h (some (.int r)) h' :=
  mm_of_G si_pn_Q (Nat.le_of_ble_eq_true rfl) (t_Q_isPart_0 _ _ _ _ _ hf)
/-! Realm hasLaw (I)Z -/
set_option maxRecDepth 100000 in
theorem dd_Realm_hasLaw_0 : (decode prog_5_method_4_code 0 = .ok (.iload_n 1, 1)) ∧ (decode prog_5_method_4_code 1 = .ok (.ifCond .lt 15, 3)) ∧ (decode prog_5_method_4_code 4 = .ok (.iload_n 1, 1)) ∧ (decode prog_5_method_4_code 5 = .ok (.aload_n 0, 1)) ∧ (decode prog_5_method_4_code 6 = .ok (.getfield 55, 3)) ∧ (decode prog_5_method_4_code 9 = .ok (.if_icmp .ge 7, 3)) ∧ (decode prog_5_method_4_code 12 = .ok (.iconst 1, 1)) ∧ (decode prog_5_method_4_code 13 = .ok (.goto 4, 3)) ∧ (decode prog_5_method_4_code 16 = .ok (.iconst 0, 1)) ∧ (decode prog_5_method_4_code 17 = .ok (.ireturn, 1)) := by
  have h : List.drop 0 prog_5_method_4_code.data.toList = 0x1b :: _ := rfl
  refine ⟨zq_k_n 27 h rfl (zq_o_27 _), ?_⟩
  replace h := zq_nx1 (q := 1) h rfl
  refine ⟨zq_k_s2 155 (fun z => .ifCond .lt z) 15 h rfl (zq_o_155 _) (by decide +kernel), ?_⟩
  replace h := zq_nx3 (q := 4) h rfl
  refine ⟨zq_k_n 27 h rfl (zq_o_27 _), ?_⟩
  replace h := zq_nx1 (q := 5) h rfl
  refine ⟨zq_k_n 42 h rfl (zq_o_42 _), ?_⟩
  replace h := zq_nx1 (q := 6) h rfl
  refine ⟨zq_k_u2 180 (fun z => .getfield z) 55 h rfl (zq_o_180 _) (by decide +kernel), ?_⟩
  replace h := zq_nx3 (q := 9) h rfl
  refine ⟨zq_k_s2 162 (fun z => .if_icmp .ge z) 7 h rfl (zq_o_162 _) (by decide +kernel), ?_⟩
  replace h := zq_nx3 (q := 12) h rfl
  refine ⟨zq_k_n 4 h rfl (zq_o_4 _), ?_⟩
  replace h := zq_nx1 (q := 13) h rfl
  refine ⟨zq_k_s2 167 (fun z => .goto z) 4 h rfl (zq_o_167 _) (by decide +kernel), ?_⟩
  replace h := zq_nx3 (q := 16) h rfl
  refine ⟨zq_k_n 3 h rfl (zq_o_3 _), ?_⟩
  replace h := zq_nx1 (q := 17) h rfl
  exact zq_k_n 172 h rfl (zq_o_172 _)
def f_Realm_hasLaw_16   (h : mH) : Option (Int32 × mH) :=
  some ((0 : Int32), h)
set_option maxRecDepth 20000 in
theorem t_Realm_hasLaw_16 {sc : Nat × (Nat → Int32)}   (h : mH) (r : Int32) (h' : mH) (hf : f_Realm_hasLaw_16   h = some (r, h')) : G sc y_Realm_hasLaw prog_5_method_4_code 2 (some .boolean) 0 0 16 [] [] h (some (.int r)) h' := by
  unfold f_Realm_hasLaw_16 at hf
  refine g_iconst (pc := 16) (0 : Int32) dd_Realm_hasLaw_0.2.2.2.2.2.2.2.2.1 (by decide) ?_
  obtain ⟨rfl, rfl⟩ := ret2 hf
  exact g_zret (pc := 17) rfl rfl dd_Realm_hasLaw_0.2.2.2.2.2.2.2.2.2
def f_Realm_hasLaw_0  (a0 : Nat) (a1 : Int32) (h : mH) : Option (Int32 × mH) :=
  if a1 < 0 then
    f_Realm_hasLaw_16  h
  else
    bd1 (gI h a0 4 0) fun x1 =>
    if x1 ≤ a1 then
      f_Realm_hasLaw_16  h
    else
      some ((1 : Int32), h)
set_option maxRecDepth 20000 in
theorem t_Realm_hasLaw_0 {sc : Nat × (Nat → Int32)}  (a0 : Nat) (a1 : Int32) (h : mH) (r : Int32) (h' : mH) (hf : f_Realm_hasLaw_0  a0 a1 h = some (r, h')) : G sc y_Realm_hasLaw prog_5_method_4_code 2 (some .boolean) 0 0 0 [(0, .ref a0), (1, .int a1)] [] h (some (.int r)) h' := by
  unfold f_Realm_hasLaw_0 at hf
  refine g_iload_n (pc := 0) 1 dd_Realm_hasLaw_0.1 rfl rfl ?_
  refine g_iflt (pc := 1) 16 dd_Realm_hasLaw_0.2.1 (by decide) (fun c4 => ?_) (fun c4 => ?_)
  · replace hf := (if_pos c4).symm.trans hf
    refine g_lv [] rfl ?_
    exact t_Realm_hasLaw_16  _ _ _  hf
  · replace hf := (if_neg c4).symm.trans hf
    refine g_iload_n (pc := 4) 1 dd_Realm_hasLaw_0.2.2.1 rfl rfl ?_
    refine g_aload_n (pc := 5) 0 dd_Realm_hasLaw_0.2.2.2.1 rfl rfl ?_
    obtain ⟨x1, e2, hf⟩ := bd1_e hf
    refine g_get (pc := 6) (ci := 4) (kk := 0) dd_Realm_hasLaw_0.2.2.2.2.1 rfl in_Realm (by decide) wd_93 (gI_spec e2) ?_
    refine g_icmpge (pc := 9) 16 dd_Realm_hasLaw_0.2.2.2.2.2.1 (by decide) (fun c3 => ?_) (fun c3 => ?_)
    · replace hf := (if_pos c3).symm.trans hf
      refine g_lv [] rfl ?_
      exact t_Realm_hasLaw_16  _ _ _  hf
    · replace hf := (if_neg c3).symm.trans hf
      refine g_iconst (pc := 12) (1 : Int32) dd_Realm_hasLaw_0.2.2.2.2.2.2.1 (by decide) ?_
      refine g_goto (pc := 13) 17 dd_Realm_hasLaw_0.2.2.2.2.2.2.2.1 (by decide) ?_
      obtain ⟨rfl, rfl⟩ := ret2 hf
      exact g_zret (pc := 17) rfl rfl dd_Realm_hasLaw_0.2.2.2.2.2.2.2.2.2
def f_Realm_hasLaw (a0 : Nat) (a1 : Int32) (h : mH) : Option (Int32 × mH) := f_Realm_hasLaw_0 a0 a1 h
theorem c_Realm_hasLaw {sc : Nat × (Nat → Int32)} {a0 : Nat} {a1 : Int32} {h : mH} {r : Int32} {h' : mH} (hf : f_Realm_hasLaw a0 a1 h = some (r, h')) : MM sc y_Realm_hasLaw prog_5_method_4_code 2 (some .boolean) 0 0 [.ref a0, .int a1] h (some (.int r)) h' :=
  mm_of_G si_pn_Realm (Nat.le_of_ble_eq_true rfl) (t_Realm_hasLaw_0 _ _ _ _ _ hf)
/-! Realm hasOne (I)Z -/
set_option maxRecDepth 100000 in
theorem dd_Realm_hasOne_0 : (decode prog_5_method_5_code 0 = .ok (.iload_n 1, 1)) ∧ (decode prog_5_method_5_code 1 = .ok (.ifCond .lt 15, 3)) ∧ (decode prog_5_method_5_code 4 = .ok (.iload_n 1, 1)) ∧ (decode prog_5_method_5_code 5 = .ok (.aload_n 0, 1)) ∧ (decode prog_5_method_5_code 6 = .ok (.getfield 59, 3)) ∧ (decode prog_5_method_5_code 9 = .ok (.if_icmp .ge 7, 3)) ∧ (decode prog_5_method_5_code 12 = .ok (.iconst 1, 1)) ∧ (decode prog_5_method_5_code 13 = .ok (.goto 4, 3)) ∧ (decode prog_5_method_5_code 16 = .ok (.iconst 0, 1)) ∧ (decode prog_5_method_5_code 17 = .ok (.ireturn, 1)) := by
  have h : List.drop 0 prog_5_method_5_code.data.toList = 0x1b :: _ := rfl
  refine ⟨zq_k_n 27 h rfl (zq_o_27 _), ?_⟩
  replace h := zq_nx1 (q := 1) h rfl
  refine ⟨zq_k_s2 155 (fun z => .ifCond .lt z) 15 h rfl (zq_o_155 _) (by decide +kernel), ?_⟩
  replace h := zq_nx3 (q := 4) h rfl
  refine ⟨zq_k_n 27 h rfl (zq_o_27 _), ?_⟩
  replace h := zq_nx1 (q := 5) h rfl
  refine ⟨zq_k_n 42 h rfl (zq_o_42 _), ?_⟩
  replace h := zq_nx1 (q := 6) h rfl
  refine ⟨zq_k_u2 180 (fun z => .getfield z) 59 h rfl (zq_o_180 _) (by decide +kernel), ?_⟩
  replace h := zq_nx3 (q := 9) h rfl
  refine ⟨zq_k_s2 162 (fun z => .if_icmp .ge z) 7 h rfl (zq_o_162 _) (by decide +kernel), ?_⟩
  replace h := zq_nx3 (q := 12) h rfl
  refine ⟨zq_k_n 4 h rfl (zq_o_4 _), ?_⟩
  replace h := zq_nx1 (q := 13) h rfl
  refine ⟨zq_k_s2 167 (fun z => .goto z) 4 h rfl (zq_o_167 _) (by decide +kernel), ?_⟩
  replace h := zq_nx3 (q := 16) h rfl
  refine ⟨zq_k_n 3 h rfl (zq_o_3 _), ?_⟩
  replace h := zq_nx1 (q := 17) h rfl
  exact zq_k_n 172 h rfl (zq_o_172 _)
def f_Realm_hasOne_16   (h : mH) : Option (Int32 × mH) :=
  some ((0 : Int32), h)
set_option maxRecDepth 20000 in
theorem t_Realm_hasOne_16 {sc : Nat × (Nat → Int32)}   (h : mH) (r : Int32) (h' : mH) (hf : f_Realm_hasOne_16   h = some (r, h')) : G sc y_Realm_hasOne prog_5_method_5_code 2 (some .boolean) 0 0 16 [] [] h (some (.int r)) h' := by
  unfold f_Realm_hasOne_16 at hf
  refine g_iconst (pc := 16) (0 : Int32) dd_Realm_hasOne_0.2.2.2.2.2.2.2.2.1 (by decide) ?_
  obtain ⟨rfl, rfl⟩ := ret2 hf
  exact g_zret (pc := 17) rfl rfl dd_Realm_hasOne_0.2.2.2.2.2.2.2.2.2
def f_Realm_hasOne_0  (a0 : Nat) (a1 : Int32) (h : mH) : Option (Int32 × mH) :=
  if a1 < 0 then
    f_Realm_hasOne_16  h
  else
    bd1 (gI h a0 4 1) fun x1 =>
    if x1 ≤ a1 then
      f_Realm_hasOne_16  h
    else
      some ((1 : Int32), h)
set_option maxRecDepth 20000 in
theorem t_Realm_hasOne_0 {sc : Nat × (Nat → Int32)}  (a0 : Nat) (a1 : Int32) (h : mH) (r : Int32) (h' : mH) (hf : f_Realm_hasOne_0  a0 a1 h = some (r, h')) : G sc y_Realm_hasOne prog_5_method_5_code 2 (some .boolean) 0 0 0 [(0, .ref a0), (1, .int a1)] [] h (some (.int r)) h' := by
  unfold f_Realm_hasOne_0 at hf
  refine g_iload_n (pc := 0) 1 dd_Realm_hasOne_0.1 rfl rfl ?_
  refine g_iflt (pc := 1) 16 dd_Realm_hasOne_0.2.1 (by decide) (fun c4 => ?_) (fun c4 => ?_)
  · replace hf := (if_pos c4).symm.trans hf
    refine g_lv [] rfl ?_
    exact t_Realm_hasOne_16  _ _ _  hf
  · replace hf := (if_neg c4).symm.trans hf
    refine g_iload_n (pc := 4) 1 dd_Realm_hasOne_0.2.2.1 rfl rfl ?_
    refine g_aload_n (pc := 5) 0 dd_Realm_hasOne_0.2.2.2.1 rfl rfl ?_
    obtain ⟨x1, e2, hf⟩ := bd1_e hf
    refine g_get (pc := 6) (ci := 4) (kk := 1) dd_Realm_hasOne_0.2.2.2.2.1 rfl in_Realm (by decide) wd_98 (gI_spec e2) ?_
    refine g_icmpge (pc := 9) 16 dd_Realm_hasOne_0.2.2.2.2.2.1 (by decide) (fun c3 => ?_) (fun c3 => ?_)
    · replace hf := (if_pos c3).symm.trans hf
      refine g_lv [] rfl ?_
      exact t_Realm_hasOne_16  _ _ _  hf
    · replace hf := (if_neg c3).symm.trans hf
      refine g_iconst (pc := 12) (1 : Int32) dd_Realm_hasOne_0.2.2.2.2.2.2.1 (by decide) ?_
      refine g_goto (pc := 13) 17 dd_Realm_hasOne_0.2.2.2.2.2.2.2.1 (by decide) ?_
      obtain ⟨rfl, rfl⟩ := ret2 hf
      exact g_zret (pc := 17) rfl rfl dd_Realm_hasOne_0.2.2.2.2.2.2.2.2.2
def f_Realm_hasOne (a0 : Nat) (a1 : Int32) (h : mH) : Option (Int32 × mH) := f_Realm_hasOne_0 a0 a1 h
theorem c_Realm_hasOne {sc : Nat × (Nat → Int32)} {a0 : Nat} {a1 : Int32} {h : mH} {r : Int32} {h' : mH} (hf : f_Realm_hasOne a0 a1 h = some (r, h')) : MM sc y_Realm_hasOne prog_5_method_5_code 2 (some .boolean) 0 0 [.ref a0, .int a1] h (some (.int r)) h' :=
  mm_of_G si_pn_Realm (Nat.le_of_ble_eq_true rfl) (t_Realm_hasOne_0 _ _ _ _ _ hf)
/-! Reader allThere (LQuotaLaws$Realm;)Z -/
set_option maxRecDepth 100000 in
theorem dd_Reader_allThere_0 : (decode prog_4_method_11_code 0 = .ok (.iconst 1, 1)) ∧ (decode prog_4_method_11_code 1 = .ok (.aload_n 0, 1)) ∧ (decode prog_4_method_11_code 2 = .ok (.getfield 60, 3)) ∧ (decode prog_4_method_11_code 5 = .ok (.ishl, 1)) ∧ (decode prog_4_method_11_code 6 = .ok (.iconst 1, 1)) ∧ (decode prog_4_method_11_code 7 = .ok (.isub, 1)) ∧ (decode prog_4_method_11_code 8 = .ok (.istore_n 1, 1)) ∧ (decode prog_4_method_11_code 9 = .ok (.aload_n 0, 1)) ∧ (decode prog_4_method_11_code 10 = .ok (.getfield 147, 3)) ∧ (decode prog_4_method_11_code 13 = .ok (.iload_n 1, 1)) ∧ (decode prog_4_method_11_code 14 = .ok (.invokestatic 153, 3)) ∧ (decode prog_4_method_11_code 17 = .ok (.ifCond .ne 5, 3)) ∧ (decode prog_4_method_11_code 20 = .ok (.iconst 0, 1)) ∧ (decode prog_4_method_11_code 21 = .ok (.ireturn, 1)) ∧ (decode prog_4_method_11_code 22 = .ok (.iconst 0, 1)) ∧ (decode prog_4_method_11_code 23 = .ok (.istore_n 2, 1)) ∧ (decode prog_4_method_11_code 24 = .ok (.iload_n 2, 1)) ∧ (decode prog_4_method_11_code 25 = .ok (.aload_n 0, 1)) ∧ (decode prog_4_method_11_code 26 = .ok (.getfield 60, 3)) ∧ (decode prog_4_method_11_code 29 = .ok (.if_icmp .ge 35, 3)) ∧ (decode prog_4_method_11_code 32 = .ok (.aload_n 0, 1)) ∧ (decode prog_4_method_11_code 33 = .ok (.getfield 88, 3)) ∧ (decode prog_4_method_11_code 36 = .ok (.iload_n 2, 1)) ∧ (decode prog_4_method_11_code 37 = .ok (.iaload, 1)) := by
  have h : List.drop 0 prog_4_method_11_code.data.toList = 0x04 :: _ := rfl
  refine ⟨zq_k_n 4 h rfl (zq_o_4 _), ?_⟩
  replace h := zq_nx1 (q := 1) h rfl
  refine ⟨zq_k_n 42 h rfl (zq_o_42 _), ?_⟩
  replace h := zq_nx1 (q := 2) h rfl
  refine ⟨zq_k_u2 180 (fun z => .getfield z) 60 h rfl (zq_o_180 _) (by decide +kernel), ?_⟩
  replace h := zq_nx3 (q := 5) h rfl
  refine ⟨zq_k_n 120 h rfl (zq_o_120 _), ?_⟩
  replace h := zq_nx1 (q := 6) h rfl
  refine ⟨zq_k_n 4 h rfl (zq_o_4 _), ?_⟩
  replace h := zq_nx1 (q := 7) h rfl
  refine ⟨zq_k_n 100 h rfl (zq_o_100 _), ?_⟩
  replace h := zq_nx1 (q := 8) h rfl
  refine ⟨zq_k_n 60 h rfl (zq_o_60 _), ?_⟩
  replace h := zq_nx1 (q := 9) h rfl
  refine ⟨zq_k_n 42 h rfl (zq_o_42 _), ?_⟩
  replace h := zq_nx1 (q := 10) h rfl
  refine ⟨zq_k_u2 180 (fun z => .getfield z) 147 h rfl (zq_o_180 _) (by decide +kernel), ?_⟩
  replace h := zq_nx3 (q := 13) h rfl
  refine ⟨zq_k_n 27 h rfl (zq_o_27 _), ?_⟩
  replace h := zq_nx1 (q := 14) h rfl
  refine ⟨zq_k_u2 184 (fun z => .invokestatic z) 153 h rfl (zq_o_184 _) (by decide +kernel), ?_⟩
  replace h := zq_nx3 (q := 17) h rfl
  refine ⟨zq_k_s2 154 (fun z => .ifCond .ne z) 5 h rfl (zq_o_154 _) (by decide +kernel), ?_⟩
  replace h := zq_nx3 (q := 20) h rfl
  refine ⟨zq_k_n 3 h rfl (zq_o_3 _), ?_⟩
  replace h := zq_nx1 (q := 21) h rfl
  refine ⟨zq_k_n 172 h rfl (zq_o_172 _), ?_⟩
  replace h := zq_nx1 (q := 22) h rfl
  refine ⟨zq_k_n 3 h rfl (zq_o_3 _), ?_⟩
  replace h := zq_nx1 (q := 23) h rfl
  refine ⟨zq_k_n 61 h rfl (zq_o_61 _), ?_⟩
  replace h := zq_nx1 (q := 24) h rfl
  refine ⟨zq_k_n 28 h rfl (zq_o_28 _), ?_⟩
  replace h := zq_nx1 (q := 25) h rfl
  refine ⟨zq_k_n 42 h rfl (zq_o_42 _), ?_⟩
  replace h := zq_nx1 (q := 26) h rfl
  refine ⟨zq_k_u2 180 (fun z => .getfield z) 60 h rfl (zq_o_180 _) (by decide +kernel), ?_⟩
  replace h := zq_nx3 (q := 29) h rfl
  refine ⟨zq_k_s2 162 (fun z => .if_icmp .ge z) 35 h rfl (zq_o_162 _) (by decide +kernel), ?_⟩
  replace h := zq_nx3 (q := 32) h rfl
  refine ⟨zq_k_n 42 h rfl (zq_o_42 _), ?_⟩
  replace h := zq_nx1 (q := 33) h rfl
  refine ⟨zq_k_u2 180 (fun z => .getfield z) 88 h rfl (zq_o_180 _) (by decide +kernel), ?_⟩
  replace h := zq_nx3 (q := 36) h rfl
  refine ⟨zq_k_n 28 h rfl (zq_o_28 _), ?_⟩
  replace h := zq_nx1 (q := 37) h rfl
  exact zq_k_n 46 h rfl (zq_o_46 _)
set_option maxRecDepth 100000 in
theorem dd_Reader_allThere_38 : (decode prog_4_method_11_code 38 = .ok (.bipush (-4), 2)) ∧ (decode prog_4_method_11_code 40 = .ok (.if_icmp .eq 18, 3)) ∧ (decode prog_4_method_11_code 43 = .ok (.aload_n 0, 1)) ∧ (decode prog_4_method_11_code 44 = .ok (.aload_n 0, 1)) ∧ (decode prog_4_method_11_code 45 = .ok (.getfield 88, 3)) ∧ (decode prog_4_method_11_code 48 = .ok (.iload_n 2, 1)) ∧ (decode prog_4_method_11_code 49 = .ok (.iaload, 1)) ∧ (decode prog_4_method_11_code 50 = .ok (.invokevirtual 156, 3)) ∧ (decode prog_4_method_11_code 53 = .ok (.ifCond .ne 5, 3)) ∧ (decode prog_4_method_11_code 56 = .ok (.iconst 0, 1)) ∧ (decode prog_4_method_11_code 57 = .ok (.ireturn, 1)) ∧ (decode prog_4_method_11_code 58 = .ok (.iinc 2 1, 3)) ∧ (decode prog_4_method_11_code 61 = .ok (.goto (-37), 3)) ∧ (decode prog_4_method_11_code 64 = .ok (.iconst 0, 1)) ∧ (decode prog_4_method_11_code 65 = .ok (.istore_n 2, 1)) ∧ (decode prog_4_method_11_code 66 = .ok (.iload_n 2, 1)) ∧ (decode prog_4_method_11_code 67 = .ok (.iconst 3, 1)) ∧ (decode prog_4_method_11_code 68 = .ok (.if_icmp .ge 58, 3)) ∧ (decode prog_4_method_11_code 71 = .ok (.aload_n 0, 1)) ∧ (decode prog_4_method_11_code 72 = .ok (.iload_n 2, 1)) ∧ (decode prog_4_method_11_code 73 = .ok (.invokevirtual 160, 3)) ∧ (decode prog_4_method_11_code 76 = .ok (.ifCond .ne 16, 3)) ∧ (decode prog_4_method_11_code 79 = .ok (.aload_n 0, 1)) ∧ (decode prog_4_method_11_code 80 = .ok (.getfield 144, 3)) := by
  have h : List.drop 38 prog_4_method_11_code.data.toList = 0x10 :: _ := rfl
  refine ⟨zq_k_s1 16 (fun z => .bipush z) (-4) h rfl (zq_o_16 _) (by decide +kernel), ?_⟩
  replace h := zq_nx2 (q := 40) h rfl
  refine ⟨zq_k_s2 159 (fun z => .if_icmp .eq z) 18 h rfl (zq_o_159 _) (by decide +kernel), ?_⟩
  replace h := zq_nx3 (q := 43) h rfl
  refine ⟨zq_k_n 42 h rfl (zq_o_42 _), ?_⟩
  replace h := zq_nx1 (q := 44) h rfl
  refine ⟨zq_k_n 42 h rfl (zq_o_42 _), ?_⟩
  replace h := zq_nx1 (q := 45) h rfl
  refine ⟨zq_k_u2 180 (fun z => .getfield z) 88 h rfl (zq_o_180 _) (by decide +kernel), ?_⟩
  replace h := zq_nx3 (q := 48) h rfl
  refine ⟨zq_k_n 28 h rfl (zq_o_28 _), ?_⟩
  replace h := zq_nx1 (q := 49) h rfl
  refine ⟨zq_k_n 46 h rfl (zq_o_46 _), ?_⟩
  replace h := zq_nx1 (q := 50) h rfl
  refine ⟨zq_k_u2 182 (fun z => .invokevirtual z) 156 h rfl (zq_o_182 _) (by decide +kernel), ?_⟩
  replace h := zq_nx3 (q := 53) h rfl
  refine ⟨zq_k_s2 154 (fun z => .ifCond .ne z) 5 h rfl (zq_o_154 _) (by decide +kernel), ?_⟩
  replace h := zq_nx3 (q := 56) h rfl
  refine ⟨zq_k_n 3 h rfl (zq_o_3 _), ?_⟩
  replace h := zq_nx1 (q := 57) h rfl
  refine ⟨zq_k_n 172 h rfl (zq_o_172 _), ?_⟩
  replace h := zq_nx1 (q := 58) h rfl
  refine ⟨zq_k_iinc 2 1 h rfl (zq_o_132 _) (by decide +kernel) (by decide +kernel), ?_⟩
  replace h := zq_nx3 (q := 61) h rfl
  refine ⟨zq_k_s2 167 (fun z => .goto z) (-37) h rfl (zq_o_167 _) (by decide +kernel), ?_⟩
  replace h := zq_nx3 (q := 64) h rfl
  refine ⟨zq_k_n 3 h rfl (zq_o_3 _), ?_⟩
  replace h := zq_nx1 (q := 65) h rfl
  refine ⟨zq_k_n 61 h rfl (zq_o_61 _), ?_⟩
  replace h := zq_nx1 (q := 66) h rfl
  refine ⟨zq_k_n 28 h rfl (zq_o_28 _), ?_⟩
  replace h := zq_nx1 (q := 67) h rfl
  refine ⟨zq_k_n 6 h rfl (zq_o_6 _), ?_⟩
  replace h := zq_nx1 (q := 68) h rfl
  refine ⟨zq_k_s2 162 (fun z => .if_icmp .ge z) 58 h rfl (zq_o_162 _) (by decide +kernel), ?_⟩
  replace h := zq_nx3 (q := 71) h rfl
  refine ⟨zq_k_n 42 h rfl (zq_o_42 _), ?_⟩
  replace h := zq_nx1 (q := 72) h rfl
  refine ⟨zq_k_n 28 h rfl (zq_o_28 _), ?_⟩
  replace h := zq_nx1 (q := 73) h rfl
  refine ⟨zq_k_u2 182 (fun z => .invokevirtual z) 160 h rfl (zq_o_182 _) (by decide +kernel), ?_⟩
  replace h := zq_nx3 (q := 76) h rfl
  refine ⟨zq_k_s2 154 (fun z => .ifCond .ne z) 16 h rfl (zq_o_154 _) (by decide +kernel), ?_⟩
  replace h := zq_nx3 (q := 79) h rfl
  refine ⟨zq_k_n 42 h rfl (zq_o_42 _), ?_⟩
  replace h := zq_nx1 (q := 80) h rfl
  exact zq_k_u2 180 (fun z => .getfield z) 144 h rfl (zq_o_180 _) (by decide +kernel)
set_option maxRecDepth 100000 in
theorem dd_Reader_allThere_83 : (decode prog_4_method_11_code 83 = .ok (.iload_n 2, 1)) ∧ (decode prog_4_method_11_code 84 = .ok (.iaload, 1)) ∧ (decode prog_4_method_11_code 85 = .ok (.ifCond .eq 7, 3)) ∧ (decode prog_4_method_11_code 88 = .ok (.iconst 1, 1)) ∧ (decode prog_4_method_11_code 89 = .ok (.goto 4, 3)) ∧ (decode prog_4_method_11_code 92 = .ok (.iconst 0, 1)) ∧ (decode prog_4_method_11_code 93 = .ok (.istore_n 3, 1)) ∧ (decode prog_4_method_11_code 94 = .ok (.iload_n 3, 1)) ∧ (decode prog_4_method_11_code 95 = .ok (.ifCond .ne 23, 3)) ∧ (decode prog_4_method_11_code 98 = .ok (.aload_n 0, 1)) ∧ (decode prog_4_method_11_code 99 = .ok (.getfield 138, 3)) ∧ (decode prog_4_method_11_code 102 = .ok (.iload_n 2, 1)) ∧ (decode prog_4_method_11_code 103 = .ok (.iaload, 1)) ∧ (decode prog_4_method_11_code 104 = .ok (.aload_n 0, 1)) ∧ (decode prog_4_method_11_code 105 = .ok (.getfield 144, 3)) ∧ (decode prog_4_method_11_code 108 = .ok (.iload_n 2, 1)) ∧ (decode prog_4_method_11_code 109 = .ok (.iaload, 1)) ∧ (decode prog_4_method_11_code 110 = .ok (.ior, 1)) ∧ (decode prog_4_method_11_code 111 = .ok (.iload_n 1, 1)) ∧ (decode prog_4_method_11_code 112 = .ok (.invokestatic 153, 3)) ∧ (decode prog_4_method_11_code 115 = .ok (.ifCond .ne 5, 3)) ∧ (decode prog_4_method_11_code 118 = .ok (.iconst 0, 1)) ∧ (decode prog_4_method_11_code 119 = .ok (.ireturn, 1)) ∧ (decode prog_4_method_11_code 120 = .ok (.iinc 2 1, 3)) := by
  have h : List.drop 83 prog_4_method_11_code.data.toList = 0x1c :: _ := rfl
  refine ⟨zq_k_n 28 h rfl (zq_o_28 _), ?_⟩
  replace h := zq_nx1 (q := 84) h rfl
  refine ⟨zq_k_n 46 h rfl (zq_o_46 _), ?_⟩
  replace h := zq_nx1 (q := 85) h rfl
  refine ⟨zq_k_s2 153 (fun z => .ifCond .eq z) 7 h rfl (zq_o_153 _) (by decide +kernel), ?_⟩
  replace h := zq_nx3 (q := 88) h rfl
  refine ⟨zq_k_n 4 h rfl (zq_o_4 _), ?_⟩
  replace h := zq_nx1 (q := 89) h rfl
  refine ⟨zq_k_s2 167 (fun z => .goto z) 4 h rfl (zq_o_167 _) (by decide +kernel), ?_⟩
  replace h := zq_nx3 (q := 92) h rfl
  refine ⟨zq_k_n 3 h rfl (zq_o_3 _), ?_⟩
  replace h := zq_nx1 (q := 93) h rfl
  refine ⟨zq_k_n 62 h rfl (zq_o_62 _), ?_⟩
  replace h := zq_nx1 (q := 94) h rfl
  refine ⟨zq_k_n 29 h rfl (zq_o_29 _), ?_⟩
  replace h := zq_nx1 (q := 95) h rfl
  refine ⟨zq_k_s2 154 (fun z => .ifCond .ne z) 23 h rfl (zq_o_154 _) (by decide +kernel), ?_⟩
  replace h := zq_nx3 (q := 98) h rfl
  refine ⟨zq_k_n 42 h rfl (zq_o_42 _), ?_⟩
  replace h := zq_nx1 (q := 99) h rfl
  refine ⟨zq_k_u2 180 (fun z => .getfield z) 138 h rfl (zq_o_180 _) (by decide +kernel), ?_⟩
  replace h := zq_nx3 (q := 102) h rfl
  refine ⟨zq_k_n 28 h rfl (zq_o_28 _), ?_⟩
  replace h := zq_nx1 (q := 103) h rfl
  refine ⟨zq_k_n 46 h rfl (zq_o_46 _), ?_⟩
  replace h := zq_nx1 (q := 104) h rfl
  refine ⟨zq_k_n 42 h rfl (zq_o_42 _), ?_⟩
  replace h := zq_nx1 (q := 105) h rfl
  refine ⟨zq_k_u2 180 (fun z => .getfield z) 144 h rfl (zq_o_180 _) (by decide +kernel), ?_⟩
  replace h := zq_nx3 (q := 108) h rfl
  refine ⟨zq_k_n 28 h rfl (zq_o_28 _), ?_⟩
  replace h := zq_nx1 (q := 109) h rfl
  refine ⟨zq_k_n 46 h rfl (zq_o_46 _), ?_⟩
  replace h := zq_nx1 (q := 110) h rfl
  refine ⟨zq_k_n 128 h rfl (zq_o_128 _), ?_⟩
  replace h := zq_nx1 (q := 111) h rfl
  refine ⟨zq_k_n 27 h rfl (zq_o_27 _), ?_⟩
  replace h := zq_nx1 (q := 112) h rfl
  refine ⟨zq_k_u2 184 (fun z => .invokestatic z) 153 h rfl (zq_o_184 _) (by decide +kernel), ?_⟩
  replace h := zq_nx3 (q := 115) h rfl
  refine ⟨zq_k_s2 154 (fun z => .ifCond .ne z) 5 h rfl (zq_o_154 _) (by decide +kernel), ?_⟩
  replace h := zq_nx3 (q := 118) h rfl
  refine ⟨zq_k_n 3 h rfl (zq_o_3 _), ?_⟩
  replace h := zq_nx1 (q := 119) h rfl
  refine ⟨zq_k_n 172 h rfl (zq_o_172 _), ?_⟩
  replace h := zq_nx1 (q := 120) h rfl
  exact zq_k_iinc 2 1 h rfl (zq_o_132 _) (by decide +kernel) (by decide +kernel)
set_option maxRecDepth 100000 in
theorem dd_Reader_allThere_123 : (decode prog_4_method_11_code 123 = .ok (.goto (-57), 3)) ∧ (decode prog_4_method_11_code 126 = .ok (.iconst 1, 1)) ∧ (decode prog_4_method_11_code 127 = .ok (.ireturn, 1)) := by
  have h : List.drop 123 prog_4_method_11_code.data.toList = 0xa7 :: _ := rfl
  refine ⟨zq_k_s2 167 (fun z => .goto z) (-57) h rfl (zq_o_167 _) (by decide +kernel), ?_⟩
  replace h := zq_nx3 (q := 126) h rfl
  refine ⟨zq_k_n 4 h rfl (zq_o_4 _), ?_⟩
  replace h := zq_nx1 (q := 127) h rfl
  exact zq_k_n 172 h rfl (zq_o_172 _)
def f_Reader_allThere_118   (h : mH) : Option (Int32 × mH) :=
  some ((0 : Int32), h)
set_option maxRecDepth 20000 in
theorem t_Reader_allThere_118 {sc : Nat × (Nat → Int32)}   (h : mH) (r : Int32) (h' : mH) (hf : f_Reader_allThere_118   h = some (r, h')) : G sc y_Reader_allThere prog_4_method_11_code 4 (some .boolean) 1 21 118 [] [] h (some (.int r)) h' := by
  unfold f_Reader_allThere_118 at hf
  refine g_iconst (pc := 118) (0 : Int32) dd_Reader_allThere_83.2.2.2.2.2.2.2.2.2.2.2.2.2.2.2.2.2.2.2.2.2.1 (by decide) ?_
  obtain ⟨rfl, rfl⟩ := ret2 hf
  exact g_zret (pc := 119) rfl rfl dd_Reader_allThere_83.2.2.2.2.2.2.2.2.2.2.2.2.2.2.2.2.2.2.2.2.2.2.1
def f_Reader_allThere_93 (rec66 : Nat → Int32 → Int32 → mH → Option (Int32 × mH)) (b0 : Nat) (b1 : Int32) (b2 : Int32) (s0 : Int32) (h : mH) : Option (Int32 × mH) :=
  if s0 = 0 then
    bd1 (gR h b0 4 15) fun x39 =>
    bd1 (aI h 0 x39 b2) fun x41 =>
    bd1 (gR h b0 4 16) fun x43 =>
    bd1 (aI h 0 x43 b2) fun x45 =>
    bd2 (f_Q_isPart (x41 ||| x45) b1 h) fun x49 h47 =>
    if x49 = 0 then
      f_Reader_allThere_118  h47
    else
      rec66 b0 b1 (b2 + (1 : Int32)) h47
  else
    f_Reader_allThere_118  h
set_option maxRecDepth 20000 in
theorem t_Reader_allThere_93 {sc : Nat × (Nat → Int32)} (rec66 : Nat → Int32 → Int32 → mH → Option (Int32 × mH)) (hrec66 : ∀ (b0 : Nat) (b1 : Int32) (b2 : Int32) (h : mH) (r : Int32) (h' : mH), rec66 b0 b1 b2 h = some (r, h') → G sc y_Reader_allThere prog_4_method_11_code 4 (some .boolean) 1 21 66 [(0, .ref b0), (1, .int b1), (2, .int b2)] [] h (some (.int r)) h') (b0 : Nat) (b1 : Int32) (b2 : Int32) (s0 : Int32) (h : mH) (r : Int32) (h' : mH) (hf : f_Reader_allThere_93 rec66 b0 b1 b2 s0 h = some (r, h')) : G sc y_Reader_allThere prog_4_method_11_code 4 (some .boolean) 1 21 93 [(0, .ref b0), (1, .int b1), (2, .int b2)] [.int s0] h (some (.int r)) h' := by
  unfold f_Reader_allThere_93 at hf
  refine g_istore_n (pc := 93) [(3, .int s0), (0, .ref b0), (1, .int b1), (2, .int b2)] dd_Reader_allThere_83.2.2.2.2.2.2.1 rfl (Nat.le_of_ble_eq_true rfl) rfl ?_
  refine g_iload_n (pc := 94) 0 dd_Reader_allThere_83.2.2.2.2.2.2.2.1 rfl rfl ?_
  refine g_ifne (pc := 95) 118 dd_Reader_allThere_83.2.2.2.2.2.2.2.2.1 (by decide) (fun c51 => ?_) (fun c51 => ?_)
  · replace hf := (if_neg c51).symm.trans hf
    refine g_lv [] rfl ?_
    exact t_Reader_allThere_118  _ _ _  hf
  · replace hf := (if_pos c51).symm.trans hf
    refine g_aload_n (pc := 98) 1 dd_Reader_allThere_83.2.2.2.2.2.2.2.2.2.1 rfl rfl ?_
    obtain ⟨x39, e40, hf⟩ := bd1_e hf
    refine g_get (pc := 99) (ci := 4) (kk := 15) dd_Reader_allThere_83.2.2.2.2.2.2.2.2.2.2.1 rfl in_Realm (by decide) wd_147 (gR_spec e40) ?_
    refine g_iload_n (pc := 102) 3 dd_Reader_allThere_83.2.2.2.2.2.2.2.2.2.2.2.1 rfl rfl ?_
    obtain ⟨x41, e42, hf⟩ := bd1_e hf
    refine g_iald (pc := 103) dd_Reader_allThere_83.2.2.2.2.2.2.2.2.2.2.2.2.1 e42 ?_
    refine g_aload_n (pc := 104) 1 dd_Reader_allThere_83.2.2.2.2.2.2.2.2.2.2.2.2.2.1 rfl rfl ?_
    obtain ⟨x43, e44, hf⟩ := bd1_e hf
    refine g_get (pc := 105) (ci := 4) (kk := 16) dd_Reader_allThere_83.2.2.2.2.2.2.2.2.2.2.2.2.2.2.1 rfl in_Realm (by decide) wd_150 (gR_spec e44) ?_
    refine g_iload_n (pc := 108) 3 dd_Reader_allThere_83.2.2.2.2.2.2.2.2.2.2.2.2.2.2.2.1 rfl rfl ?_
    obtain ⟨x45, e46, hf⟩ := bd1_e hf
    refine g_iald (pc := 109) dd_Reader_allThere_83.2.2.2.2.2.2.2.2.2.2.2.2.2.2.2.2.1 e46 ?_
    refine g_ior (pc := 110) dd_Reader_allThere_83.2.2.2.2.2.2.2.2.2.2.2.2.2.2.2.2.2.1 ?_
    refine g_iload_n (pc := 111) 2 dd_Reader_allThere_83.2.2.2.2.2.2.2.2.2.2.2.2.2.2.2.2.2.2.1 rfl rfl ?_
    obtain ⟨x49, h47, e48, hf⟩ := bd2_e hf
    refine g_callSN (pc := 112) "QuotaLaws" [.int (x41 ||| x45), .int b1] (site_of si_Q_isPart (by decide) (by decide)) wd_484 wd_485 dd_Reader_allThere_83.2.2.2.2.2.2.2.2.2.2.2.2.2.2.2.2.2.2.2.1 (Nat.le_of_ble_eq_true rfl) (fun z => absurd z si_na_Q_isPart) (fun z => absurd z si_na_Q_isPart) (fun z => absurd z si_na_Q_isPart) (c_Q_isPart e48) rfl ?_
    refine g_st [.int x49] rfl ?_
    refine g_ifne (pc := 115) 120 dd_Reader_allThere_83.2.2.2.2.2.2.2.2.2.2.2.2.2.2.2.2.2.2.2.2.1 (by decide) (fun c50 => ?_) (fun c50 => ?_)
    · replace hf := (if_neg c50).symm.trans hf
      refine g_iinc (pc := 120) 3 (b2 + (1 : Int32)) [(2, .int (b2 + (1 : Int32))), (3, .int s0), (0, .ref b0), (1, .int b1)] dd_Reader_allThere_83.2.2.2.2.2.2.2.2.2.2.2.2.2.2.2.2.2.2.2.2.2.2.2 rfl rfl (Nat.le_of_ble_eq_true rfl) rfl ?_
      refine g_goto (pc := 123) 66 dd_Reader_allThere_123.1 (by decide) ?_
      refine g_lv [2, 3, 0] rfl ?_
      exact hrec66 _ _ _ _ _ _  hf
    · replace hf := (if_pos c50).symm.trans hf
      refine g_lv [] rfl ?_
      exact t_Reader_allThere_118  _ _ _  hf
def f_Reader_allThere_92 (rec66 : Nat → Int32 → Int32 → mH → Option (Int32 × mH)) (b0 : Nat) (b1 : Int32) (b2 : Int32) (h : mH) : Option (Int32 × mH) :=
  f_Reader_allThere_93 rec66 b0 b1 b2 (0 : Int32) h
set_option maxRecDepth 20000 in
theorem t_Reader_allThere_92 {sc : Nat × (Nat → Int32)} (rec66 : Nat → Int32 → Int32 → mH → Option (Int32 × mH)) (hrec66 : ∀ (b0 : Nat) (b1 : Int32) (b2 : Int32) (h : mH) (r : Int32) (h' : mH), rec66 b0 b1 b2 h = some (r, h') → G sc y_Reader_allThere prog_4_method_11_code 4 (some .boolean) 1 21 66 [(0, .ref b0), (1, .int b1), (2, .int b2)] [] h (some (.int r)) h') (b0 : Nat) (b1 : Int32) (b2 : Int32) (h : mH) (r : Int32) (h' : mH) (hf : f_Reader_allThere_92 rec66 b0 b1 b2 h = some (r, h')) : G sc y_Reader_allThere prog_4_method_11_code 4 (some .boolean) 1 21 92 [(0, .ref b0), (1, .int b1), (2, .int b2)] [] h (some (.int r)) h' := by
  unfold f_Reader_allThere_92 at hf
  refine g_iconst (pc := 92) (0 : Int32) dd_Reader_allThere_83.2.2.2.2.2.1 (by decide) ?_
  refine g_lv [0, 1, 2] rfl ?_
  exact t_Reader_allThere_93 rec66 hrec66 _ _ _ _ _ _ _  hf
def f_Reader_allThere_66b (rec66 : Nat → Int32 → Int32 → mH → Option (Int32 × mH)) (b0 : Nat) (b1 : Int32) (b2 : Int32) (h : mH) : Option (Int32 × mH) :=
  if (3 : Int32) ≤ b2 then
    some ((1 : Int32), h)
  else
    bd1 (kC h b0 4) fun _ =>
    bd2 (f_Realm_hasOne b0 b2 h) fun x31 h29 =>
    if x31 = 0 then
      bd1 (gR h29 b0 4 16) fun x32 =>
      bd1 (aI h29 0 x32 b2) fun x34 =>
      if x34 = 0 then
        f_Reader_allThere_92 rec66 b0 b1 b2 h29
      else
        f_Reader_allThere_93 rec66 b0 b1 b2 (1 : Int32) h29
    else
      f_Reader_allThere_92 rec66 b0 b1 b2 h29
set_option maxRecDepth 20000 in
theorem t_Reader_allThere_66b {sc : Nat × (Nat → Int32)} (rec66 : Nat → Int32 → Int32 → mH → Option (Int32 × mH)) (hrec66 : ∀ (b0 : Nat) (b1 : Int32) (b2 : Int32) (h : mH) (r : Int32) (h' : mH), rec66 b0 b1 b2 h = some (r, h') → G sc y_Reader_allThere prog_4_method_11_code 4 (some .boolean) 1 21 66 [(0, .ref b0), (1, .int b1), (2, .int b2)] [] h (some (.int r)) h') (b0 : Nat) (b1 : Int32) (b2 : Int32) (h : mH) (r : Int32) (h' : mH) (hf : f_Reader_allThere_66b rec66 b0 b1 b2 h = some (r, h')) : G sc y_Reader_allThere prog_4_method_11_code 4 (some .boolean) 1 21 66 [(0, .ref b0), (1, .int b1), (2, .int b2)] [] h (some (.int r)) h' := by
  unfold f_Reader_allThere_66b at hf
  refine g_iload_n (pc := 66) 2 dd_Reader_allThere_38.2.2.2.2.2.2.2.2.2.2.2.2.2.2.2.1 rfl rfl ?_
  refine g_iconst (pc := 67) (3 : Int32) dd_Reader_allThere_38.2.2.2.2.2.2.2.2.2.2.2.2.2.2.2.2.1 (by decide) ?_
  refine g_icmpge (pc := 68) 126 dd_Reader_allThere_38.2.2.2.2.2.2.2.2.2.2.2.2.2.2.2.2.2.1 (by decide) (fun c38 => ?_) (fun c38 => ?_)
  · replace hf := (if_pos c38).symm.trans hf
    refine g_iconst (pc := 126) (1 : Int32) dd_Reader_allThere_123.2.1 (by decide) ?_
    obtain ⟨rfl, rfl⟩ := ret2 hf
    exact g_zret (pc := 127) rfl rfl dd_Reader_allThere_123.2.2
  · replace hf := (if_neg c38).symm.trans hf
    refine g_aload_n (pc := 71) 0 dd_Reader_allThere_38.2.2.2.2.2.2.2.2.2.2.2.2.2.2.2.2.2.2.1 rfl rfl ?_
    refine g_iload_n (pc := 72) 2 dd_Reader_allThere_38.2.2.2.2.2.2.2.2.2.2.2.2.2.2.2.2.2.2.2.1 rfl rfl ?_
    obtain ⟨u28, e27, hf⟩ := bd1_e hf
    obtain ⟨x31, h29, e30, hf⟩ := bd2_e hf
    refine g_callV (pc := 73) (ci := 4) [.int b2] (site_of si_Realm_hasOne (by decide) (by decide)) wd_491 wd_492 wd_493 dd_Reader_allThere_38.2.2.2.2.2.2.2.2.2.2.2.2.2.2.2.2.2.2.2.2.1 rfl e27 (Nat.le_of_ble_eq_true rfl) (fun z => absurd z si_na_Realm_hasOne) (fun z => absurd z si_na_Realm_hasOne) (fun z => absurd z si_na_Realm_hasOne) (c_Realm_hasOne e30) rfl ?_
    refine g_st [.int x31] rfl ?_
    refine g_ifne (pc := 76) 92 dd_Reader_allThere_38.2.2.2.2.2.2.2.2.2.2.2.2.2.2.2.2.2.2.2.2.2.1 (by decide) (fun c37 => ?_) (fun c37 => ?_)
    · replace hf := (if_neg c37).symm.trans hf
      refine g_lv [0, 1, 2] rfl ?_
      exact t_Reader_allThere_92 rec66 hrec66 _ _ _ _ _ _  hf
    · replace hf := (if_pos c37).symm.trans hf
      refine g_aload_n (pc := 79) 0 dd_Reader_allThere_38.2.2.2.2.2.2.2.2.2.2.2.2.2.2.2.2.2.2.2.2.2.2.1 rfl rfl ?_
      obtain ⟨x32, e33, hf⟩ := bd1_e hf
      refine g_get (pc := 80) (ci := 4) (kk := 16) dd_Reader_allThere_38.2.2.2.2.2.2.2.2.2.2.2.2.2.2.2.2.2.2.2.2.2.2.2 rfl in_Realm (by decide) wd_150 (gR_spec e33) ?_
      refine g_iload_n (pc := 83) 2 dd_Reader_allThere_83.1 rfl rfl ?_
      obtain ⟨x34, e35, hf⟩ := bd1_e hf
      refine g_iald (pc := 84) dd_Reader_allThere_83.2.1 e35 ?_
      refine g_ifeq (pc := 85) 92 dd_Reader_allThere_83.2.2.1 (by decide) (fun c36 => ?_) (fun c36 => ?_)
      · replace hf := (if_pos c36).symm.trans hf
        refine g_lv [0, 1, 2] rfl ?_
        exact t_Reader_allThere_92 rec66 hrec66 _ _ _ _ _ _  hf
      · replace hf := (if_neg c36).symm.trans hf
        refine g_iconst (pc := 88) (1 : Int32) dd_Reader_allThere_83.2.2.2.1 (by decide) ?_
        refine g_goto (pc := 89) 93 dd_Reader_allThere_83.2.2.2.2.1 (by decide) ?_
        refine g_lv [0, 1, 2] rfl ?_
        exact t_Reader_allThere_93 rec66 hrec66 _ _ _ _ _ _ _  hf
def f_Reader_allThere_66  : Nat → Nat → Int32 → Int32 → mH → Option (Int32 × mH)
  | 0 => fun _ _ _ _ => none
  | n + 1 => f_Reader_allThere_66b  (f_Reader_allThere_66  n)
theorem t_Reader_allThere_66 {sc : Nat × (Nat → Int32)}  : ∀ (n : Nat) (b0 : Nat) (b1 : Int32) (b2 : Int32) (h : mH) (r : Int32) (h' : mH) (hf : f_Reader_allThere_66  n b0 b1 b2 h = some (r, h')), G sc y_Reader_allThere prog_4_method_11_code 4 (some .boolean) 1 21 66 [(0, .ref b0), (1, .int b1), (2, .int b2)] [] h (some (.int r)) h'
  | 0, _, _, _, _, _, _, hf => by cases hf
  | n + 1, _, _, _, _, _, _, hf => t_Reader_allThere_66b  (f_Reader_allThere_66  n) (t_Reader_allThere_66  n) _ _ _ _ _ _ hf
def f_Reader_allThere_58 (rec24 : Nat → Int32 → Int32 → mH → Option (Int32 × mH)) (b0 : Nat) (b1 : Int32) (b2 : Int32) (h : mH) : Option (Int32 × mH) :=
  rec24 b0 b1 (b2 + (1 : Int32)) h
set_option maxRecDepth 20000 in
theorem t_Reader_allThere_58 {sc : Nat × (Nat → Int32)} (rec24 : Nat → Int32 → Int32 → mH → Option (Int32 × mH)) (hrec24 : ∀ (b0 : Nat) (b1 : Int32) (b2 : Int32) (h : mH) (r : Int32) (h' : mH), rec24 b0 b1 b2 h = some (r, h') → G sc y_Reader_allThere prog_4_method_11_code 4 (some .boolean) 1 21 24 [(0, .ref b0), (1, .int b1), (2, .int b2)] [] h (some (.int r)) h') (b0 : Nat) (b1 : Int32) (b2 : Int32) (h : mH) (r : Int32) (h' : mH) (hf : f_Reader_allThere_58 rec24 b0 b1 b2 h = some (r, h')) : G sc y_Reader_allThere prog_4_method_11_code 4 (some .boolean) 1 21 58 [(0, .ref b0), (1, .int b1), (2, .int b2)] [] h (some (.int r)) h' := by
  unfold f_Reader_allThere_58 at hf
  refine g_iinc (pc := 58) 2 (b2 + (1 : Int32)) [(2, .int (b2 + (1 : Int32))), (0, .ref b0), (1, .int b1)] dd_Reader_allThere_38.2.2.2.2.2.2.2.2.2.2.2.1 rfl rfl (Nat.le_of_ble_eq_true rfl) rfl ?_
  refine g_goto (pc := 61) 24 dd_Reader_allThere_38.2.2.2.2.2.2.2.2.2.2.2.2.1 (by decide) ?_
  refine g_lv [1, 2, 0] rfl ?_
  exact hrec24 _ _ _ _ _ _  hf
def f_Reader_allThere_24b (rec24 : Nat → Int32 → Int32 → mH → Option (Int32 × mH)) (b0 : Nat) (b1 : Int32) (b2 : Int32) (h : mH) : Option (Int32 × mH) :=
  bd1 (gI h b0 4 0) fun x9 =>
  if x9 ≤ b2 then
    f_Reader_allThere_66  FU b0 b1 (0 : Int32) h
  else
    bd1 (gR h b0 4 10) fun x11 =>
    bd1 (aI h 0 x11 b2) fun x13 =>
    if x13 = ((-4) : Int32) then
      f_Reader_allThere_58 rec24 b0 b1 b2 h
    else
      bd1 (gR h b0 4 10) fun x15 =>
      bd1 (aI h 0 x15 b2) fun x17 =>
      bd1 (kC h b0 4) fun _ =>
      bd2 (f_Realm_hasLaw b0 x17 h) fun x23 h21 =>
      if x23 = 0 then
        some ((0 : Int32), h21)
      else
        f_Reader_allThere_58 rec24 b0 b1 b2 h21
set_option maxRecDepth 20000 in
theorem t_Reader_allThere_24b {sc : Nat × (Nat → Int32)} (rec24 : Nat → Int32 → Int32 → mH → Option (Int32 × mH)) (hrec24 : ∀ (b0 : Nat) (b1 : Int32) (b2 : Int32) (h : mH) (r : Int32) (h' : mH), rec24 b0 b1 b2 h = some (r, h') → G sc y_Reader_allThere prog_4_method_11_code 4 (some .boolean) 1 21 24 [(0, .ref b0), (1, .int b1), (2, .int b2)] [] h (some (.int r)) h') (b0 : Nat) (b1 : Int32) (b2 : Int32) (h : mH) (r : Int32) (h' : mH) (hf : f_Reader_allThere_24b rec24 b0 b1 b2 h = some (r, h')) : G sc y_Reader_allThere prog_4_method_11_code 4 (some .boolean) 1 21 24 [(0, .ref b0), (1, .int b1), (2, .int b2)] [] h (some (.int r)) h' := by
  unfold f_Reader_allThere_24b at hf
  refine g_iload_n (pc := 24) 2 dd_Reader_allThere_0.2.2.2.2.2.2.2.2.2.2.2.2.2.2.2.2.1 rfl rfl ?_
  refine g_aload_n (pc := 25) 0 dd_Reader_allThere_0.2.2.2.2.2.2.2.2.2.2.2.2.2.2.2.2.2.1 rfl rfl ?_
  obtain ⟨x9, e10, hf⟩ := bd1_e hf
  refine g_get (pc := 26) (ci := 4) (kk := 0) dd_Reader_allThere_0.2.2.2.2.2.2.2.2.2.2.2.2.2.2.2.2.2.2.1 rfl in_Realm (by decide) wd_96 (gI_spec e10) ?_
  refine g_icmpge (pc := 29) 64 dd_Reader_allThere_0.2.2.2.2.2.2.2.2.2.2.2.2.2.2.2.2.2.2.2.1 (by decide) (fun c26 => ?_) (fun c26 => ?_)
  · replace hf := (if_pos c26).symm.trans hf
    refine g_iconst (pc := 64) (0 : Int32) dd_Reader_allThere_38.2.2.2.2.2.2.2.2.2.2.2.2.2.1 (by decide) ?_
    refine g_istore_n (pc := 65) [(2, .int (0 : Int32)), (0, .ref b0), (1, .int b1)] dd_Reader_allThere_38.2.2.2.2.2.2.2.2.2.2.2.2.2.2.1 rfl (Nat.le_of_ble_eq_true rfl) rfl ?_
    refine g_lv [1, 2, 0] rfl ?_
    exact t_Reader_allThere_66  FU _ _ _ _ _ _  hf
  · replace hf := (if_neg c26).symm.trans hf
    refine g_aload_n (pc := 32) 0 dd_Reader_allThere_0.2.2.2.2.2.2.2.2.2.2.2.2.2.2.2.2.2.2.2.2.1 rfl rfl ?_
    obtain ⟨x11, e12, hf⟩ := bd1_e hf
    refine g_get (pc := 33) (ci := 4) (kk := 10) dd_Reader_allThere_0.2.2.2.2.2.2.2.2.2.2.2.2.2.2.2.2.2.2.2.2.2.1 rfl in_Realm (by decide) wd_128 (gR_spec e12) ?_
    refine g_iload_n (pc := 36) 2 dd_Reader_allThere_0.2.2.2.2.2.2.2.2.2.2.2.2.2.2.2.2.2.2.2.2.2.2.1 rfl rfl ?_
    obtain ⟨x13, e14, hf⟩ := bd1_e hf
    refine g_iald (pc := 37) dd_Reader_allThere_0.2.2.2.2.2.2.2.2.2.2.2.2.2.2.2.2.2.2.2.2.2.2.2 e14 ?_
    refine g_bipush (pc := 38) ((-4) : Int32) dd_Reader_allThere_38.1 (by decide) ?_
    refine g_icmpeq (pc := 40) 58 dd_Reader_allThere_38.2.1 (by decide) (fun c25 => ?_) (fun c25 => ?_)
    · replace hf := (if_pos c25).symm.trans hf
      refine g_lv [0, 1, 2] rfl ?_
      exact t_Reader_allThere_58 rec24 hrec24 _ _ _ _ _ _  hf
    · replace hf := (if_neg c25).symm.trans hf
      refine g_aload_n (pc := 43) 0 dd_Reader_allThere_38.2.2.1 rfl rfl ?_
      refine g_aload_n (pc := 44) 0 dd_Reader_allThere_38.2.2.2.1 rfl rfl ?_
      obtain ⟨x15, e16, hf⟩ := bd1_e hf
      refine g_get (pc := 45) (ci := 4) (kk := 10) dd_Reader_allThere_38.2.2.2.2.1 rfl in_Realm (by decide) wd_128 (gR_spec e16) ?_
      refine g_iload_n (pc := 48) 2 dd_Reader_allThere_38.2.2.2.2.2.1 rfl rfl ?_
      obtain ⟨x17, e18, hf⟩ := bd1_e hf
      refine g_iald (pc := 49) dd_Reader_allThere_38.2.2.2.2.2.2.1 e18 ?_
      obtain ⟨u20, e19, hf⟩ := bd1_e hf
      obtain ⟨x23, h21, e22, hf⟩ := bd2_e hf
      refine g_callV (pc := 50) (ci := 4) [.int x17] (site_of si_Realm_hasLaw (by decide) (by decide)) wd_487 wd_488 wd_489 dd_Reader_allThere_38.2.2.2.2.2.2.2.1 rfl e19 (Nat.le_of_ble_eq_true rfl) (fun z => absurd z si_na_Realm_hasLaw) (fun z => absurd z si_na_Realm_hasLaw) (fun z => absurd z si_na_Realm_hasLaw) (c_Realm_hasLaw e22) rfl ?_
      refine g_st [.int x23] rfl ?_
      refine g_ifne (pc := 53) 58 dd_Reader_allThere_38.2.2.2.2.2.2.2.2.1 (by decide) (fun c24 => ?_) (fun c24 => ?_)
      · replace hf := (if_neg c24).symm.trans hf
        refine g_lv [0, 1, 2] rfl ?_
        exact t_Reader_allThere_58 rec24 hrec24 _ _ _ _ _ _  hf
      · replace hf := (if_pos c24).symm.trans hf
        refine g_iconst (pc := 56) (0 : Int32) dd_Reader_allThere_38.2.2.2.2.2.2.2.2.2.1 (by decide) ?_
        obtain ⟨rfl, rfl⟩ := ret2 hf
        exact g_zret (pc := 57) rfl rfl dd_Reader_allThere_38.2.2.2.2.2.2.2.2.2.2.1
def f_Reader_allThere_24  : Nat → Nat → Int32 → Int32 → mH → Option (Int32 × mH)
  | 0 => fun _ _ _ _ => none
  | n + 1 => f_Reader_allThere_24b  (f_Reader_allThere_24  n)
theorem t_Reader_allThere_24 {sc : Nat × (Nat → Int32)}  : ∀ (n : Nat) (b0 : Nat) (b1 : Int32) (b2 : Int32) (h : mH) (r : Int32) (h' : mH) (hf : f_Reader_allThere_24  n b0 b1 b2 h = some (r, h')), G sc y_Reader_allThere prog_4_method_11_code 4 (some .boolean) 1 21 24 [(0, .ref b0), (1, .int b1), (2, .int b2)] [] h (some (.int r)) h'
  | 0, _, _, _, _, _, _, hf => by cases hf
  | n + 1, _, _, _, _, _, _, hf => t_Reader_allThere_24b  (f_Reader_allThere_24  n) (t_Reader_allThere_24  n) _ _ _ _ _ _ hf
def f_Reader_allThere_0  (a0 : Nat) (h : mH) : Option (Int32 × mH) :=
  bd1 (gI h a0 4 0) fun x1 =>
  bd1 (gI h a0 4 5) fun x3 =>
  bd2 (f_Q_isPart x3 (((1 : Int32) <<< (x1 &&& 31)) - (1 : Int32)) h) fun x7 h5 =>
  if x7 = 0 then
    some ((0 : Int32), h5)
  else
    f_Reader_allThere_24  FU a0 (((1 : Int32) <<< (x1 &&& 31)) - (1 : Int32)) (0 : Int32) h5
set_option maxRecDepth 20000 in
theorem t_Reader_allThere_0 {sc : Nat × (Nat → Int32)}  (a0 : Nat) (h : mH) (r : Int32) (h' : mH) (hf : f_Reader_allThere_0  a0 h = some (r, h')) : G sc y_Reader_allThere prog_4_method_11_code 4 (some .boolean) 1 21 0 [(0, .ref a0)] [] h (some (.int r)) h' := by
  unfold f_Reader_allThere_0 at hf
  refine g_iconst (pc := 0) (1 : Int32) dd_Reader_allThere_0.1 (by decide) ?_
  refine g_aload_n (pc := 1) 0 dd_Reader_allThere_0.2.1 rfl rfl ?_
  obtain ⟨x1, e2, hf⟩ := bd1_e hf
  refine g_get (pc := 2) (ci := 4) (kk := 0) dd_Reader_allThere_0.2.2.1 rfl in_Realm (by decide) wd_96 (gI_spec e2) ?_
  refine g_ishl (pc := 5) dd_Reader_allThere_0.2.2.2.1 ?_
  refine g_iconst (pc := 6) (1 : Int32) dd_Reader_allThere_0.2.2.2.2.1 (by decide) ?_
  refine g_isub (pc := 7) dd_Reader_allThere_0.2.2.2.2.2.1 ?_
  refine g_istore_n (pc := 8) [(1, .int (((1 : Int32) <<< (x1 &&& 31)) - (1 : Int32))), (0, .ref a0)] dd_Reader_allThere_0.2.2.2.2.2.2.1 rfl (Nat.le_of_ble_eq_true rfl) rfl ?_
  refine g_aload_n (pc := 9) 1 dd_Reader_allThere_0.2.2.2.2.2.2.2.1 rfl rfl ?_
  obtain ⟨x3, e4, hf⟩ := bd1_e hf
  refine g_get (pc := 10) (ci := 4) (kk := 5) dd_Reader_allThere_0.2.2.2.2.2.2.2.2.1 rfl in_Realm (by decide) wd_112 (gI_spec e4) ?_
  refine g_iload_n (pc := 13) 0 dd_Reader_allThere_0.2.2.2.2.2.2.2.2.2.1 rfl rfl ?_
  obtain ⟨x7, h5, e6, hf⟩ := bd2_e hf
  refine g_callSN (pc := 14) "QuotaLaws" [.int x3, .int (((1 : Int32) <<< (x1 &&& 31)) - (1 : Int32))] (site_of si_Q_isPart (by decide) (by decide)) wd_484 wd_485 dd_Reader_allThere_0.2.2.2.2.2.2.2.2.2.2.1 (Nat.le_of_ble_eq_true rfl) (fun z => absurd z si_na_Q_isPart) (fun z => absurd z si_na_Q_isPart) (fun z => absurd z si_na_Q_isPart) (c_Q_isPart e6) rfl ?_
  refine g_st [.int x7] rfl ?_
  refine g_ifne (pc := 17) 22 dd_Reader_allThere_0.2.2.2.2.2.2.2.2.2.2.2.1 (by decide) (fun c8 => ?_) (fun c8 => ?_)
  · replace hf := (if_neg c8).symm.trans hf
    refine g_iconst (pc := 22) (0 : Int32) dd_Reader_allThere_0.2.2.2.2.2.2.2.2.2.2.2.2.2.2.1 (by decide) ?_
    refine g_istore_n (pc := 23) [(2, .int (0 : Int32)), (1, .int (((1 : Int32) <<< (x1 &&& 31)) - (1 : Int32))), (0, .ref a0)] dd_Reader_allThere_0.2.2.2.2.2.2.2.2.2.2.2.2.2.2.2.1 rfl (Nat.le_of_ble_eq_true rfl) rfl ?_
    refine g_lv [2, 1, 0] rfl ?_
    exact t_Reader_allThere_24  FU _ _ _ _ _ _  hf
  · replace hf := (if_pos c8).symm.trans hf
    refine g_iconst (pc := 20) (0 : Int32) dd_Reader_allThere_0.2.2.2.2.2.2.2.2.2.2.2.2.1 (by decide) ?_
    obtain ⟨rfl, rfl⟩ := ret2 hf
    exact g_zret (pc := 21) rfl rfl dd_Reader_allThere_0.2.2.2.2.2.2.2.2.2.2.2.2.2.1
def f_Reader_allThere (a0 : Nat) (h : mH) : Option (Int32 × mH) := f_Reader_allThere_0 a0 h
theorem c_Reader_allThere {sc : Nat × (Nat → Int32)} {a0 : Nat} {h : mH} {r : Int32} {h' : mH} (hf : f_Reader_allThere a0 h = some (r, h')) : MM sc y_Reader_allThere prog_4_method_11_code 4 (some .boolean) 1 21 [.ref a0] h (some (.int r)) h' :=
  mm_of_G si_pn_Reader (Nat.le_of_ble_eq_true rfl) (t_Reader_allThere_0 _ _ _ _ hf)
end
/-! 31.own -/
section
/-! Reader readInto (LQuotaLaws$Realm;)Z -/
set_option maxRecDepth 100000 in
theorem dd_Reader_readInto_0 : (decode prog_4_method_3_code 0 = .ok (.aload_n 1, 1)) ∧ (decode prog_4_method_3_code 1 = .ok (.invokevirtual 19, 3)) ∧ (decode prog_4_method_3_code 4 = .ok (.aload_n 0, 1)) ∧ (decode prog_4_method_3_code 5 = .ok (.iconst 0, 1)) ∧ (decode prog_4_method_3_code 6 = .ok (.putfield 24, 3)) ∧ (decode prog_4_method_3_code 9 = .ok (.aload_n 0, 1)) ∧ (decode prog_4_method_3_code 10 = .ok (.iconst 0, 1)) ∧ (decode prog_4_method_3_code 11 = .ok (.putfield 27, 3)) ∧ (decode prog_4_method_3_code 14 = .ok (.aload_n 0, 1)) ∧ (decode prog_4_method_3_code 15 = .ok (.iconst 0, 1)) ∧ (decode prog_4_method_3_code 16 = .ok (.putfield 30, 3)) ∧ (decode prog_4_method_3_code 19 = .ok (.aload_n 0, 1)) ∧ (decode prog_4_method_3_code 20 = .ok (.iconst 0, 1)) ∧ (decode prog_4_method_3_code 21 = .ok (.putfield 33, 3)) ∧ (decode prog_4_method_3_code 24 = .ok (.aload_n 0, 1)) ∧ (decode prog_4_method_3_code 25 = .ok (.invokevirtual 36, 3)) ∧ (decode prog_4_method_3_code 28 = .ok (.istore_n 2, 1)) ∧ (decode prog_4_method_3_code 29 = .ok (.iconst 0, 1)) ∧ (decode prog_4_method_3_code 30 = .ok (.istore_n 3, 1)) ∧ (decode prog_4_method_3_code 31 = .ok (.iload_n 3, 1)) ∧ (decode prog_4_method_3_code 32 = .ok (.sipush 160, 3)) ∧ (decode prog_4_method_3_code 35 = .ok (.if_icmp .ge 51, 3)) ∧ (decode prog_4_method_3_code 38 = .ok (.iload_n 2, 1)) ∧ (decode prog_4_method_3_code 39 = .ok (.ifCond .eq 47, 3)) := by
  have h : List.drop 0 prog_4_method_3_code.data.toList = 0x2b :: _ := rfl
  refine ⟨zq_k_n 43 h rfl (zq_o_43 _), ?_⟩
  replace h := zq_nx1 (q := 1) h rfl
  refine ⟨zq_k_u2 182 (fun z => .invokevirtual z) 19 h rfl (zq_o_182 _) (by decide +kernel), ?_⟩
  replace h := zq_nx3 (q := 4) h rfl
  refine ⟨zq_k_n 42 h rfl (zq_o_42 _), ?_⟩
  replace h := zq_nx1 (q := 5) h rfl
  refine ⟨zq_k_n 3 h rfl (zq_o_3 _), ?_⟩
  replace h := zq_nx1 (q := 6) h rfl
  refine ⟨zq_k_u2 181 (fun z => .putfield z) 24 h rfl (zq_o_181 _) (by decide +kernel), ?_⟩
  replace h := zq_nx3 (q := 9) h rfl
  refine ⟨zq_k_n 42 h rfl (zq_o_42 _), ?_⟩
  replace h := zq_nx1 (q := 10) h rfl
  refine ⟨zq_k_n 3 h rfl (zq_o_3 _), ?_⟩
  replace h := zq_nx1 (q := 11) h rfl
  refine ⟨zq_k_u2 181 (fun z => .putfield z) 27 h rfl (zq_o_181 _) (by decide +kernel), ?_⟩
  replace h := zq_nx3 (q := 14) h rfl
  refine ⟨zq_k_n 42 h rfl (zq_o_42 _), ?_⟩
  replace h := zq_nx1 (q := 15) h rfl
  refine ⟨zq_k_n 3 h rfl (zq_o_3 _), ?_⟩
  replace h := zq_nx1 (q := 16) h rfl
  refine ⟨zq_k_u2 181 (fun z => .putfield z) 30 h rfl (zq_o_181 _) (by decide +kernel), ?_⟩
  replace h := zq_nx3 (q := 19) h rfl
  refine ⟨zq_k_n 42 h rfl (zq_o_42 _), ?_⟩
  replace h := zq_nx1 (q := 20) h rfl
  refine ⟨zq_k_n 3 h rfl (zq_o_3 _), ?_⟩
  replace h := zq_nx1 (q := 21) h rfl
  refine ⟨zq_k_u2 181 (fun z => .putfield z) 33 h rfl (zq_o_181 _) (by decide +kernel), ?_⟩
  replace h := zq_nx3 (q := 24) h rfl
  refine ⟨zq_k_n 42 h rfl (zq_o_42 _), ?_⟩
  replace h := zq_nx1 (q := 25) h rfl
  refine ⟨zq_k_u2 182 (fun z => .invokevirtual z) 36 h rfl (zq_o_182 _) (by decide +kernel), ?_⟩
  replace h := zq_nx3 (q := 28) h rfl
  refine ⟨zq_k_n 61 h rfl (zq_o_61 _), ?_⟩
  replace h := zq_nx1 (q := 29) h rfl
  refine ⟨zq_k_n 3 h rfl (zq_o_3 _), ?_⟩
  replace h := zq_nx1 (q := 30) h rfl
  refine ⟨zq_k_n 62 h rfl (zq_o_62 _), ?_⟩
  replace h := zq_nx1 (q := 31) h rfl
  refine ⟨zq_k_n 29 h rfl (zq_o_29 _), ?_⟩
  replace h := zq_nx1 (q := 32) h rfl
  refine ⟨zq_k_s2 17 (fun z => .sipush z) 160 h rfl (zq_o_17 _) (by decide +kernel), ?_⟩
  replace h := zq_nx3 (q := 35) h rfl
  refine ⟨zq_k_s2 162 (fun z => .if_icmp .ge z) 51 h rfl (zq_o_162 _) (by decide +kernel), ?_⟩
  replace h := zq_nx3 (q := 38) h rfl
  refine ⟨zq_k_n 28 h rfl (zq_o_28 _), ?_⟩
  replace h := zq_nx1 (q := 39) h rfl
  exact zq_k_s2 153 (fun z => .ifCond .eq z) 47 h rfl (zq_o_153 _) (by decide +kernel)
set_option maxRecDepth 100000 in
theorem dd_Reader_readInto_42 : (decode prog_4_method_3_code 42 = .ok (.aload_n 0, 1)) ∧ (decode prog_4_method_3_code 43 = .ok (.getfield 40, 3)) ∧ (decode prog_4_method_3_code 46 = .ok (.ifCond .eq 40, 3)) ∧ (decode prog_4_method_3_code 49 = .ok (.aload_n 0, 1)) ∧ (decode prog_4_method_3_code 50 = .ok (.aload_n 1, 1)) ∧ (decode prog_4_method_3_code 51 = .ok (.invokevirtual 43, 3)) ∧ (decode prog_4_method_3_code 54 = .ok (.ifCond .eq 14, 3)) ∧ (decode prog_4_method_3_code 57 = .ok (.aload_n 0, 1)) ∧ (decode prog_4_method_3_code 58 = .ok (.invokevirtual 36, 3)) ∧ (decode prog_4_method_3_code 61 = .ok (.ifCond .eq 7, 3)) ∧ (decode prog_4_method_3_code 64 = .ok (.iconst 1, 1)) ∧ (decode prog_4_method_3_code 65 = .ok (.goto 4, 3)) ∧ (decode prog_4_method_3_code 68 = .ok (.iconst 0, 1)) ∧ (decode prog_4_method_3_code 69 = .ok (.istore_n 2, 1)) ∧ (decode prog_4_method_3_code 70 = .ok (.aload_n 0, 1)) ∧ (decode prog_4_method_3_code 71 = .ok (.dup, 1)) ∧ (decode prog_4_method_3_code 72 = .ok (.getfield 30, 3)) ∧ (decode prog_4_method_3_code 75 = .ok (.iconst 1, 1)) ∧ (decode prog_4_method_3_code 76 = .ok (.iadd, 1)) ∧ (decode prog_4_method_3_code 77 = .ok (.putfield 30, 3)) ∧ (decode prog_4_method_3_code 80 = .ok (.iinc 3 1, 3)) ∧ (decode prog_4_method_3_code 83 = .ok (.goto (-52), 3)) ∧ (decode prog_4_method_3_code 86 = .ok (.iload_n 2, 1)) ∧ (decode prog_4_method_3_code 87 = .ok (.ifCond .eq 27, 3)) := by
  have h : List.drop 42 prog_4_method_3_code.data.toList = 0x2a :: _ := rfl
  refine ⟨zq_k_n 42 h rfl (zq_o_42 _), ?_⟩
  replace h := zq_nx1 (q := 43) h rfl
  refine ⟨zq_k_u2 180 (fun z => .getfield z) 40 h rfl (zq_o_180 _) (by decide +kernel), ?_⟩
  replace h := zq_nx3 (q := 46) h rfl
  refine ⟨zq_k_s2 153 (fun z => .ifCond .eq z) 40 h rfl (zq_o_153 _) (by decide +kernel), ?_⟩
  replace h := zq_nx3 (q := 49) h rfl
  refine ⟨zq_k_n 42 h rfl (zq_o_42 _), ?_⟩
  replace h := zq_nx1 (q := 50) h rfl
  refine ⟨zq_k_n 43 h rfl (zq_o_43 _), ?_⟩
  replace h := zq_nx1 (q := 51) h rfl
  refine ⟨zq_k_u2 182 (fun z => .invokevirtual z) 43 h rfl (zq_o_182 _) (by decide +kernel), ?_⟩
  replace h := zq_nx3 (q := 54) h rfl
  refine ⟨zq_k_s2 153 (fun z => .ifCond .eq z) 14 h rfl (zq_o_153 _) (by decide +kernel), ?_⟩
  replace h := zq_nx3 (q := 57) h rfl
  refine ⟨zq_k_n 42 h rfl (zq_o_42 _), ?_⟩
  replace h := zq_nx1 (q := 58) h rfl
  refine ⟨zq_k_u2 182 (fun z => .invokevirtual z) 36 h rfl (zq_o_182 _) (by decide +kernel), ?_⟩
  replace h := zq_nx3 (q := 61) h rfl
  refine ⟨zq_k_s2 153 (fun z => .ifCond .eq z) 7 h rfl (zq_o_153 _) (by decide +kernel), ?_⟩
  replace h := zq_nx3 (q := 64) h rfl
  refine ⟨zq_k_n 4 h rfl (zq_o_4 _), ?_⟩
  replace h := zq_nx1 (q := 65) h rfl
  refine ⟨zq_k_s2 167 (fun z => .goto z) 4 h rfl (zq_o_167 _) (by decide +kernel), ?_⟩
  replace h := zq_nx3 (q := 68) h rfl
  refine ⟨zq_k_n 3 h rfl (zq_o_3 _), ?_⟩
  replace h := zq_nx1 (q := 69) h rfl
  refine ⟨zq_k_n 61 h rfl (zq_o_61 _), ?_⟩
  replace h := zq_nx1 (q := 70) h rfl
  refine ⟨zq_k_n 42 h rfl (zq_o_42 _), ?_⟩
  replace h := zq_nx1 (q := 71) h rfl
  refine ⟨zq_k_n 89 h rfl (zq_o_89 _), ?_⟩
  replace h := zq_nx1 (q := 72) h rfl
  refine ⟨zq_k_u2 180 (fun z => .getfield z) 30 h rfl (zq_o_180 _) (by decide +kernel), ?_⟩
  replace h := zq_nx3 (q := 75) h rfl
  refine ⟨zq_k_n 4 h rfl (zq_o_4 _), ?_⟩
  replace h := zq_nx1 (q := 76) h rfl
  refine ⟨zq_k_n 96 h rfl (zq_o_96 _), ?_⟩
  replace h := zq_nx1 (q := 77) h rfl
  refine ⟨zq_k_u2 181 (fun z => .putfield z) 30 h rfl (zq_o_181 _) (by decide +kernel), ?_⟩
  replace h := zq_nx3 (q := 80) h rfl
  refine ⟨zq_k_iinc 3 1 h rfl (zq_o_132 _) (by decide +kernel) (by decide +kernel), ?_⟩
  replace h := zq_nx3 (q := 83) h rfl
  refine ⟨zq_k_s2 167 (fun z => .goto z) (-52) h rfl (zq_o_167 _) (by decide +kernel), ?_⟩
  replace h := zq_nx3 (q := 86) h rfl
  refine ⟨zq_k_n 28 h rfl (zq_o_28 _), ?_⟩
  replace h := zq_nx1 (q := 87) h rfl
  exact zq_k_s2 153 (fun z => .ifCond .eq z) 27 h rfl (zq_o_153 _) (by decide +kernel)
set_option maxRecDepth 100000 in
theorem dd_Reader_readInto_90 : (decode prog_4_method_3_code 90 = .ok (.aload_n 1, 1)) ∧ (decode prog_4_method_3_code 91 = .ok (.invokestatic 47, 3)) ∧ (decode prog_4_method_3_code 94 = .ok (.ifCond .ne 16, 3)) ∧ (decode prog_4_method_3_code 97 = .ok (.aload_n 0, 1)) ∧ (decode prog_4_method_3_code 98 = .ok (.bipush 6, 2)) ∧ (decode prog_4_method_3_code 100 = .ok (.aload_n 0, 1)) ∧ (decode prog_4_method_3_code 101 = .ok (.getfield 15, 3)) ∧ (decode prog_4_method_3_code 104 = .ok (.invokevirtual 50, 3)) ∧ (decode prog_4_method_3_code 107 = .ok (.ifCond .eq 7, 3)) ∧ (decode prog_4_method_3_code 110 = .ok (.iconst 1, 1)) ∧ (decode prog_4_method_3_code 111 = .ok (.goto 4, 3)) ∧ (decode prog_4_method_3_code 114 = .ok (.iconst 0, 1)) ∧ (decode prog_4_method_3_code 115 = .ok (.ireturn, 1)) := by
  have h : List.drop 90 prog_4_method_3_code.data.toList = 0x2b :: _ := rfl
  refine ⟨zq_k_n 43 h rfl (zq_o_43 _), ?_⟩
  replace h := zq_nx1 (q := 91) h rfl
  refine ⟨zq_k_u2 184 (fun z => .invokestatic z) 47 h rfl (zq_o_184 _) (by decide +kernel), ?_⟩
  replace h := zq_nx3 (q := 94) h rfl
  refine ⟨zq_k_s2 154 (fun z => .ifCond .ne z) 16 h rfl (zq_o_154 _) (by decide +kernel), ?_⟩
  replace h := zq_nx3 (q := 97) h rfl
  refine ⟨zq_k_n 42 h rfl (zq_o_42 _), ?_⟩
  replace h := zq_nx1 (q := 98) h rfl
  refine ⟨zq_k_s1 16 (fun z => .bipush z) 6 h rfl (zq_o_16 _) (by decide +kernel), ?_⟩
  replace h := zq_nx2 (q := 100) h rfl
  refine ⟨zq_k_n 42 h rfl (zq_o_42 _), ?_⟩
  replace h := zq_nx1 (q := 101) h rfl
  refine ⟨zq_k_u2 180 (fun z => .getfield z) 15 h rfl (zq_o_180 _) (by decide +kernel), ?_⟩
  replace h := zq_nx3 (q := 104) h rfl
  refine ⟨zq_k_u2 182 (fun z => .invokevirtual z) 50 h rfl (zq_o_182 _) (by decide +kernel), ?_⟩
  replace h := zq_nx3 (q := 107) h rfl
  refine ⟨zq_k_s2 153 (fun z => .ifCond .eq z) 7 h rfl (zq_o_153 _) (by decide +kernel), ?_⟩
  replace h := zq_nx3 (q := 110) h rfl
  refine ⟨zq_k_n 4 h rfl (zq_o_4 _), ?_⟩
  replace h := zq_nx1 (q := 111) h rfl
  refine ⟨zq_k_s2 167 (fun z => .goto z) 4 h rfl (zq_o_167 _) (by decide +kernel), ?_⟩
  replace h := zq_nx3 (q := 114) h rfl
  refine ⟨zq_k_n 3 h rfl (zq_o_3 _), ?_⟩
  replace h := zq_nx1 (q := 115) h rfl
  exact zq_k_n 172 h rfl (zq_o_172 _)
def f_Reader_readInto_114   (h : mH) : Option (Int32 × mH) :=
  some ((0 : Int32), h)
set_option maxRecDepth 20000 in
theorem t_Reader_readInto_114 {sc : Nat × (Nat → Int32)}   (h : mH) (r : Int32) (h' : mH) (hf : f_Reader_readInto_114   h = some (r, h')) : G sc y_Reader_readInto prog_4_method_3_code 4 (some .boolean) 6 128 114 [] [] h (some (.int r)) h' := by
  unfold f_Reader_readInto_114 at hf
  refine g_iconst (pc := 114) (0 : Int32) dd_Reader_readInto_90.2.2.2.2.2.2.2.2.2.2.2.1 (by decide) ?_
  obtain ⟨rfl, rfl⟩ := ret2 hf
  exact g_zret (pc := 115) rfl rfl dd_Reader_readInto_90.2.2.2.2.2.2.2.2.2.2.2.2
def f_Reader_readInto_110   (h : mH) : Option (Int32 × mH) :=
  some ((1 : Int32), h)
set_option maxRecDepth 20000 in
theorem t_Reader_readInto_110 {sc : Nat × (Nat → Int32)}   (h : mH) (r : Int32) (h' : mH) (hf : f_Reader_readInto_110   h = some (r, h')) : G sc y_Reader_readInto prog_4_method_3_code 4 (some .boolean) 6 128 110 [] [] h (some (.int r)) h' := by
  unfold f_Reader_readInto_110 at hf
  refine g_iconst (pc := 110) (1 : Int32) dd_Reader_readInto_90.2.2.2.2.2.2.2.2.2.1 (by decide) ?_
  refine g_goto (pc := 111) 115 dd_Reader_readInto_90.2.2.2.2.2.2.2.2.2.2.1 (by decide) ?_
  obtain ⟨rfl, rfl⟩ := ret2 hf
  exact g_zret (pc := 115) rfl rfl dd_Reader_readInto_90.2.2.2.2.2.2.2.2.2.2.2.2
def f_Reader_readInto_86  (b0 : Nat) (b1 : Nat) (b2 : Int32) (h : mH) : Option (Int32 × mH) :=
  if b2 = 0 then
    f_Reader_readInto_114  h
  else
    bd2 (f_Reader_allThere b1 h) fun x41 h39 =>
    if x41 = 0 then
      bd1 (gI h39 b0 3 1) fun x42 =>
      bd1 (kC h39 b0 3) fun _ =>
      bd2 (f_Reader_fail b0 (6 : Int32) x42 h39) fun x48 h46 =>
      if x48 = 0 then
        f_Reader_readInto_114  h46
      else
        f_Reader_readInto_110  h46
    else
      f_Reader_readInto_110  h39
set_option maxRecDepth 20000 in
theorem t_Reader_readInto_86 {sc : Nat × (Nat → Int32)}  (b0 : Nat) (b1 : Nat) (b2 : Int32) (h : mH) (r : Int32) (h' : mH) (hf : f_Reader_readInto_86  b0 b1 b2 h = some (r, h')) : G sc y_Reader_readInto prog_4_method_3_code 4 (some .boolean) 6 128 86 [(0, .ref b0), (1, .ref b1), (2, .int b2)] [] h (some (.int r)) h' := by
  unfold f_Reader_readInto_86 at hf
  refine g_iload_n (pc := 86) 2 dd_Reader_readInto_42.2.2.2.2.2.2.2.2.2.2.2.2.2.2.2.2.2.2.2.2.2.2.1 rfl rfl ?_
  refine g_ifeq (pc := 87) 114 dd_Reader_readInto_42.2.2.2.2.2.2.2.2.2.2.2.2.2.2.2.2.2.2.2.2.2.2.2 (by decide) (fun c51 => ?_) (fun c51 => ?_)
  · replace hf := (if_pos c51).symm.trans hf
    refine g_lv [] rfl ?_
    exact t_Reader_readInto_114  _ _ _  hf
  · replace hf := (if_neg c51).symm.trans hf
    refine g_aload_n (pc := 90) 1 dd_Reader_readInto_90.1 rfl rfl ?_
    obtain ⟨x41, h39, e40, hf⟩ := bd2_e hf
    refine g_callS (pc := 91) [.ref b1] (site_of si_Reader_allThere (by decide) (by decide)) wd_481 wd_482 dd_Reader_readInto_90.2.1 (Nat.le_of_ble_eq_true rfl) (fun z => absurd z si_na_Reader_allThere) (fun z => absurd z si_na_Reader_allThere) (fun z => absurd z si_na_Reader_allThere) (c_Reader_allThere e40) rfl ?_
    refine g_st [.int x41] rfl ?_
    refine g_ifne (pc := 94) 110 dd_Reader_readInto_90.2.2.1 (by decide) (fun c50 => ?_) (fun c50 => ?_)
    · replace hf := (if_neg c50).symm.trans hf
      refine g_lv [] rfl ?_
      exact t_Reader_readInto_110  _ _ _  hf
    · replace hf := (if_pos c50).symm.trans hf
      refine g_aload_n (pc := 97) 0 dd_Reader_readInto_90.2.2.2.1 rfl rfl ?_
      refine g_bipush (pc := 98) (6 : Int32) dd_Reader_readInto_90.2.2.2.2.1 (by decide) ?_
      refine g_aload_n (pc := 100) 0 dd_Reader_readInto_90.2.2.2.2.2.1 rfl rfl ?_
      obtain ⟨x42, e43, hf⟩ := bd1_e hf
      refine g_get (pc := 101) (ci := 3) (kk := 1) dd_Reader_readInto_90.2.2.2.2.2.2.1 rfl in_Reader (by decide) wd_33 (gI_spec e43) ?_
      obtain ⟨u45, e44, hf⟩ := bd1_e hf
      obtain ⟨x48, h46, e47, hf⟩ := bd2_e hf
      refine g_callV (pc := 104) (ci := 3) [.int (6 : Int32), .int x42] (site_of si_Reader_fail (by decide) (by decide)) wd_373 wd_375 wp_4 dd_Reader_readInto_90.2.2.2.2.2.2.2.1 rfl e44 (Nat.le_of_ble_eq_true rfl) (fun z => absurd z si_na_Reader_fail) (fun z => absurd z si_na_Reader_fail) (fun z => absurd z si_na_Reader_fail) (c_Reader_fail e47) rfl ?_
      refine g_st [.int x48] rfl ?_
      refine g_ifeq (pc := 107) 114 dd_Reader_readInto_90.2.2.2.2.2.2.2.2.1 (by decide) (fun c49 => ?_) (fun c49 => ?_)
      · replace hf := (if_pos c49).symm.trans hf
        refine g_lv [] rfl ?_
        exact t_Reader_readInto_114  _ _ _  hf
      · replace hf := (if_neg c49).symm.trans hf
        refine g_lv [] rfl ?_
        exact t_Reader_readInto_110  _ _ _  hf
def f_Reader_readInto_69 (rec31 : Nat → Nat → Int32 → Int32 → mH → Option (Int32 × mH)) (b0 : Nat) (b1 : Nat) (b3 : Int32) (s0 : Int32) (h : mH) : Option (Int32 × mH) :=
  bd1 (gI h b0 3 4) fun x35 =>
  bd1 (pV h b0 3 4 (.int (x35 + (1 : Int32)))) fun h37 =>
  rec31 b0 b1 s0 (b3 + (1 : Int32)) h37
set_option maxRecDepth 20000 in
theorem t_Reader_readInto_69 {sc : Nat × (Nat → Int32)} (rec31 : Nat → Nat → Int32 → Int32 → mH → Option (Int32 × mH)) (hrec31 : ∀ (b0 : Nat) (b1 : Nat) (b2 : Int32) (b3 : Int32) (h : mH) (r : Int32) (h' : mH), rec31 b0 b1 b2 b3 h = some (r, h') → G sc y_Reader_readInto prog_4_method_3_code 4 (some .boolean) 6 128 31 [(0, .ref b0), (1, .ref b1), (2, .int b2), (3, .int b3)] [] h (some (.int r)) h') (b0 : Nat) (b1 : Nat) (b3 : Int32) (s0 : Int32) (h : mH) (r : Int32) (h' : mH) (hf : f_Reader_readInto_69 rec31 b0 b1 b3 s0 h = some (r, h')) : G sc y_Reader_readInto prog_4_method_3_code 4 (some .boolean) 6 128 69 [(0, .ref b0), (1, .ref b1), (3, .int b3)] [.int s0] h (some (.int r)) h' := by
  unfold f_Reader_readInto_69 at hf
  refine g_istore_n (pc := 69) [(2, .int s0), (0, .ref b0), (1, .ref b1), (3, .int b3)] dd_Reader_readInto_42.2.2.2.2.2.2.2.2.2.2.2.2.2.1 rfl (Nat.le_of_ble_eq_true rfl) rfl ?_
  refine g_aload_n (pc := 70) 1 dd_Reader_readInto_42.2.2.2.2.2.2.2.2.2.2.2.2.2.2.1 rfl rfl ?_
  refine g_dup (pc := 71) dd_Reader_readInto_42.2.2.2.2.2.2.2.2.2.2.2.2.2.2.2.1 rfl ?_
  obtain ⟨x35, e36, hf⟩ := bd1_e hf
  refine g_get (pc := 72) (ci := 3) (kk := 4) dd_Reader_readInto_42.2.2.2.2.2.2.2.2.2.2.2.2.2.2.2.2.1 rfl in_Reader (by decide) wd_39 (gI_spec e36) ?_
  refine g_iconst (pc := 75) (1 : Int32) dd_Reader_readInto_42.2.2.2.2.2.2.2.2.2.2.2.2.2.2.2.2.2.1 (by decide) ?_
  refine g_iadd (pc := 76) dd_Reader_readInto_42.2.2.2.2.2.2.2.2.2.2.2.2.2.2.2.2.2.2.1 ?_
  obtain ⟨h37, e38, hf⟩ := bd1_e hf
  refine g_put (pc := 77) (ci := 3) (kk := 4) ty_Reader tyok_Reader nm_Reader dd_Reader_readInto_42.2.2.2.2.2.2.2.2.2.2.2.2.2.2.2.2.2.2.2.1 rfl in_Reader (by decide) wd_39 rfl (fun _ => rfl) (fun _ => rfl) (fun _ z => by cases z) e38 ?_
  refine g_iinc (pc := 80) 3 (b3 + (1 : Int32)) [(3, .int (b3 + (1 : Int32))), (2, .int s0), (0, .ref b0), (1, .ref b1)] dd_Reader_readInto_42.2.2.2.2.2.2.2.2.2.2.2.2.2.2.2.2.2.2.2.2.1 rfl rfl (Nat.le_of_ble_eq_true rfl) rfl ?_
  refine g_goto (pc := 83) 31 dd_Reader_readInto_42.2.2.2.2.2.2.2.2.2.2.2.2.2.2.2.2.2.2.2.2.2.1 (by decide) ?_
  refine g_lv [2, 3, 1, 0] rfl ?_
  exact hrec31 _ _ _ _ _ _ _  hf
def f_Reader_readInto_68 (rec31 : Nat → Nat → Int32 → Int32 → mH → Option (Int32 × mH)) (b0 : Nat) (b1 : Nat) (b3 : Int32) (h : mH) : Option (Int32 × mH) :=
  f_Reader_readInto_69 rec31 b0 b1 b3 (0 : Int32) h
set_option maxRecDepth 20000 in
theorem t_Reader_readInto_68 {sc : Nat × (Nat → Int32)} (rec31 : Nat → Nat → Int32 → Int32 → mH → Option (Int32 × mH)) (hrec31 : ∀ (b0 : Nat) (b1 : Nat) (b2 : Int32) (b3 : Int32) (h : mH) (r : Int32) (h' : mH), rec31 b0 b1 b2 b3 h = some (r, h') → G sc y_Reader_readInto prog_4_method_3_code 4 (some .boolean) 6 128 31 [(0, .ref b0), (1, .ref b1), (2, .int b2), (3, .int b3)] [] h (some (.int r)) h') (b0 : Nat) (b1 : Nat) (b3 : Int32) (h : mH) (r : Int32) (h' : mH) (hf : f_Reader_readInto_68 rec31 b0 b1 b3 h = some (r, h')) : G sc y_Reader_readInto prog_4_method_3_code 4 (some .boolean) 6 128 68 [(0, .ref b0), (1, .ref b1), (3, .int b3)] [] h (some (.int r)) h' := by
  unfold f_Reader_readInto_68 at hf
  refine g_iconst (pc := 68) (0 : Int32) dd_Reader_readInto_42.2.2.2.2.2.2.2.2.2.2.2.2.1 (by decide) ?_
  refine g_lv [0, 1, 2] rfl ?_
  exact t_Reader_readInto_69 rec31 hrec31 _ _ _ _ _ _ _  hf
def f_Reader_readInto_31b (rec31 : Nat → Nat → Int32 → Int32 → mH → Option (Int32 × mH)) (b0 : Nat) (b1 : Nat) (b2 : Int32) (b3 : Int32) (h : mH) : Option (Int32 × mH) :=
  if (160 : Int32) ≤ b3 then
    f_Reader_readInto_86  b0 b1 b2 h
  else
    if b2 = 0 then
      f_Reader_readInto_86  b0 b1 b2 h
    else
      bd1 (gI h b0 3 6) fun x18 =>
      if x18 = 0 then
        f_Reader_readInto_86  b0 b1 b2 h
      else
        bd1 (kC h b0 3) fun _ =>
        bd2 (f_Reader_takeLine b0 b1 h) fun x24 h22 =>
        if x24 = 0 then
          f_Reader_readInto_68 rec31 b0 b1 b3 h22
        else
          bd1 (kC h22 b0 3) fun _ =>
          bd2 (f_Reader_takeToken b0 h22) fun x29 h27 =>
          if x29 = 0 then
            f_Reader_readInto_68 rec31 b0 b1 b3 h27
          else
            f_Reader_readInto_69 rec31 b0 b1 b3 (1 : Int32) h27
set_option maxRecDepth 20000 in
theorem t_Reader_readInto_31b {sc : Nat × (Nat → Int32)} (rec31 : Nat → Nat → Int32 → Int32 → mH → Option (Int32 × mH)) (hrec31 : ∀ (b0 : Nat) (b1 : Nat) (b2 : Int32) (b3 : Int32) (h : mH) (r : Int32) (h' : mH), rec31 b0 b1 b2 b3 h = some (r, h') → G sc y_Reader_readInto prog_4_method_3_code 4 (some .boolean) 6 128 31 [(0, .ref b0), (1, .ref b1), (2, .int b2), (3, .int b3)] [] h (some (.int r)) h') (b0 : Nat) (b1 : Nat) (b2 : Int32) (b3 : Int32) (h : mH) (r : Int32) (h' : mH) (hf : f_Reader_readInto_31b rec31 b0 b1 b2 b3 h = some (r, h')) : G sc y_Reader_readInto prog_4_method_3_code 4 (some .boolean) 6 128 31 [(0, .ref b0), (1, .ref b1), (2, .int b2), (3, .int b3)] [] h (some (.int r)) h' := by
  unfold f_Reader_readInto_31b at hf
  refine g_iload_n (pc := 31) 3 dd_Reader_readInto_0.2.2.2.2.2.2.2.2.2.2.2.2.2.2.2.2.2.2.2.1 rfl rfl ?_
  refine g_sipush (pc := 32) (160 : Int32) dd_Reader_readInto_0.2.2.2.2.2.2.2.2.2.2.2.2.2.2.2.2.2.2.2.2.1 (by decide) ?_
  refine g_icmpge (pc := 35) 86 dd_Reader_readInto_0.2.2.2.2.2.2.2.2.2.2.2.2.2.2.2.2.2.2.2.2.2.1 (by decide) (fun c34 => ?_) (fun c34 => ?_)
  · replace hf := (if_pos c34).symm.trans hf
    refine g_lv [0, 1, 2] rfl ?_
    exact t_Reader_readInto_86  _ _ _ _ _ _  hf
  · replace hf := (if_neg c34).symm.trans hf
    refine g_iload_n (pc := 38) 2 dd_Reader_readInto_0.2.2.2.2.2.2.2.2.2.2.2.2.2.2.2.2.2.2.2.2.2.2.1 rfl rfl ?_
    refine g_ifeq (pc := 39) 86 dd_Reader_readInto_0.2.2.2.2.2.2.2.2.2.2.2.2.2.2.2.2.2.2.2.2.2.2.2 (by decide) (fun c33 => ?_) (fun c33 => ?_)
    · replace hf := (if_pos c33).symm.trans hf
      refine g_lv [0, 1, 2] rfl ?_
      exact t_Reader_readInto_86  _ _ _ _ _ _  hf
    · replace hf := (if_neg c33).symm.trans hf
      refine g_aload_n (pc := 42) 0 dd_Reader_readInto_42.1 rfl rfl ?_
      obtain ⟨x18, e19, hf⟩ := bd1_e hf
      refine g_get (pc := 43) (ci := 3) (kk := 6) dd_Reader_readInto_42.2.1 rfl in_Reader (by decide) wd_42 (gI_spec e19) ?_
      refine g_ifeq (pc := 46) 86 dd_Reader_readInto_42.2.2.1 (by decide) (fun c32 => ?_) (fun c32 => ?_)
      · replace hf := (if_pos c32).symm.trans hf
        refine g_lv [0, 1, 2] rfl ?_
        exact t_Reader_readInto_86  _ _ _ _ _ _  hf
      · replace hf := (if_neg c32).symm.trans hf
        refine g_aload_n (pc := 49) 0 dd_Reader_readInto_42.2.2.2.1 rfl rfl ?_
        refine g_aload_n (pc := 50) 1 dd_Reader_readInto_42.2.2.2.2.1 rfl rfl ?_
        obtain ⟨u21, e20, hf⟩ := bd1_e hf
        obtain ⟨x24, h22, e23, hf⟩ := bd2_e hf
        refine g_callV (pc := 51) (ci := 3) [.ref b1] (site_of si_Reader_takeLine (by decide) (by decide)) wd_377 wd_379 wp_5 dd_Reader_readInto_42.2.2.2.2.2.1 rfl e20 (Nat.le_of_ble_eq_true rfl) (fun z => absurd z si_na_Reader_takeLine) (fun z => absurd z si_na_Reader_takeLine) (fun z => absurd z si_na_Reader_takeLine) (c_Reader_takeLine e23) rfl ?_
        refine g_st [.int x24] rfl ?_
        refine g_ifeq (pc := 54) 68 dd_Reader_readInto_42.2.2.2.2.2.2.1 (by decide) (fun c31 => ?_) (fun c31 => ?_)
        · replace hf := (if_pos c31).symm.trans hf
          refine g_lv [0, 1, 3] rfl ?_
          exact t_Reader_readInto_68 rec31 hrec31 _ _ _ _ _ _  hf
        · replace hf := (if_neg c31).symm.trans hf
          refine g_aload_n (pc := 57) 0 dd_Reader_readInto_42.2.2.2.2.2.2.2.1 rfl rfl ?_
          obtain ⟨u26, e25, hf⟩ := bd1_e hf
          obtain ⟨x29, h27, e28, hf⟩ := bd2_e hf
          refine g_callV (pc := 58) (ci := 3) [] (site_of si_Reader_takeToken (by decide) (by decide)) wd_357 wd_359 wp_0 dd_Reader_readInto_42.2.2.2.2.2.2.2.2.1 rfl e25 (Nat.le_of_ble_eq_true rfl) (fun z => absurd z si_na_Reader_takeToken) (fun z => absurd z si_na_Reader_takeToken) (fun z => absurd z si_na_Reader_takeToken) (c_Reader_takeToken e28) rfl ?_
          refine g_st [.int x29] rfl ?_
          refine g_ifeq (pc := 61) 68 dd_Reader_readInto_42.2.2.2.2.2.2.2.2.2.1 (by decide) (fun c30 => ?_) (fun c30 => ?_)
          · replace hf := (if_pos c30).symm.trans hf
            refine g_lv [0, 1, 3] rfl ?_
            exact t_Reader_readInto_68 rec31 hrec31 _ _ _ _ _ _  hf
          · replace hf := (if_neg c30).symm.trans hf
            refine g_iconst (pc := 64) (1 : Int32) dd_Reader_readInto_42.2.2.2.2.2.2.2.2.2.2.1 (by decide) ?_
            refine g_goto (pc := 65) 69 dd_Reader_readInto_42.2.2.2.2.2.2.2.2.2.2.2.1 (by decide) ?_
            refine g_lv [0, 1, 3] rfl ?_
            exact t_Reader_readInto_69 rec31 hrec31 _ _ _ _ _ _ _  hf
def f_Reader_readInto_31  : Nat → Nat → Nat → Int32 → Int32 → mH → Option (Int32 × mH)
  | 0 => fun _ _ _ _ _ => none
  | n + 1 => f_Reader_readInto_31b  (f_Reader_readInto_31  n)
theorem t_Reader_readInto_31 {sc : Nat × (Nat → Int32)}  : ∀ (n : Nat) (b0 : Nat) (b1 : Nat) (b2 : Int32) (b3 : Int32) (h : mH) (r : Int32) (h' : mH) (hf : f_Reader_readInto_31  n b0 b1 b2 b3 h = some (r, h')), G sc y_Reader_readInto prog_4_method_3_code 4 (some .boolean) 6 128 31 [(0, .ref b0), (1, .ref b1), (2, .int b2), (3, .int b3)] [] h (some (.int r)) h'
  | 0, _, _, _, _, _, _, _, hf => by cases hf
  | n + 1, _, _, _, _, _, _, _, hf => t_Reader_readInto_31b  (f_Reader_readInto_31  n) (t_Reader_readInto_31  n) _ _ _ _ _ _ _ hf
def f_Reader_readInto_0  (a0 : Nat) (a1 : Nat) (h : mH) : Option (Int32 × mH) :=
  bd1 (kC h a1 4) fun _ =>
  bd1 (f_Realm_empty a1 h) fun h3 =>
  bd1 (pV h3 a0 3 2 (.int (0 : Int32))) fun h5 =>
  bd1 (pV h5 a0 3 3 (.int (0 : Int32))) fun h7 =>
  bd1 (pV h7 a0 3 4 (.int (0 : Int32))) fun h9 =>
  bd1 (pV h9 a0 3 5 (.int (0 : Int32))) fun h11 =>
  bd1 (kC h11 a0 3) fun _ =>
  bd2 (f_Reader_takeToken a0 h11) fun x17 h15 =>
  f_Reader_readInto_31  FU a0 a1 x17 (0 : Int32) h15
set_option maxRecDepth 20000 in
theorem t_Reader_readInto_0 {sc : Nat × (Nat → Int32)}  (a0 : Nat) (a1 : Nat) (h : mH) (r : Int32) (h' : mH) (hf : f_Reader_readInto_0  a0 a1 h = some (r, h')) : G sc y_Reader_readInto prog_4_method_3_code 4 (some .boolean) 6 128 0 [(0, .ref a0), (1, .ref a1)] [] h (some (.int r)) h' := by
  unfold f_Reader_readInto_0 at hf
  refine g_aload_n (pc := 0) 1 dd_Reader_readInto_0.1 rfl rfl ?_
  obtain ⟨u2, e1, hf⟩ := bd1_e hf
  obtain ⟨h3, e4, hf⟩ := bd1_e hf
  refine g_callV (pc := 1) (ci := 4) [] (site_of si_Realm_empty (by decide) (by decide)) wd_350 wd_351 wd_352 dd_Reader_readInto_0.2.1 rfl e1 (Nat.le_of_ble_eq_true rfl) (fun z => absurd z si_na_Realm_empty) (fun z => absurd z si_na_Realm_empty) (fun z => absurd z si_na_Realm_empty) (c_Realm_empty e4) rfl ?_
  refine g_st [] rfl ?_
  refine g_aload_n (pc := 4) 0 dd_Reader_readInto_0.2.2.1 rfl rfl ?_
  refine g_iconst (pc := 5) (0 : Int32) dd_Reader_readInto_0.2.2.2.1 (by decide) ?_
  obtain ⟨h5, e6, hf⟩ := bd1_e hf
  refine g_put (pc := 6) (ci := 3) (kk := 2) ty_Reader tyok_Reader nm_Reader dd_Reader_readInto_0.2.2.2.2.1 rfl in_Reader (by decide) wd_35 rfl (fun _ => rfl) (fun _ => rfl) (fun _ z => by cases z) e6 ?_
  refine g_aload_n (pc := 9) 0 dd_Reader_readInto_0.2.2.2.2.2.1 rfl rfl ?_
  refine g_iconst (pc := 10) (0 : Int32) dd_Reader_readInto_0.2.2.2.2.2.2.1 (by decide) ?_
  obtain ⟨h7, e8, hf⟩ := bd1_e hf
  refine g_put (pc := 11) (ci := 3) (kk := 3) ty_Reader tyok_Reader nm_Reader dd_Reader_readInto_0.2.2.2.2.2.2.2.1 rfl in_Reader (by decide) wd_37 rfl (fun _ => rfl) (fun _ => rfl) (fun _ z => by cases z) e8 ?_
  refine g_aload_n (pc := 14) 0 dd_Reader_readInto_0.2.2.2.2.2.2.2.2.1 rfl rfl ?_
  refine g_iconst (pc := 15) (0 : Int32) dd_Reader_readInto_0.2.2.2.2.2.2.2.2.2.1 (by decide) ?_
  obtain ⟨h9, e10, hf⟩ := bd1_e hf
  refine g_put (pc := 16) (ci := 3) (kk := 4) ty_Reader tyok_Reader nm_Reader dd_Reader_readInto_0.2.2.2.2.2.2.2.2.2.2.1 rfl in_Reader (by decide) wd_39 rfl (fun _ => rfl) (fun _ => rfl) (fun _ z => by cases z) e10 ?_
  refine g_aload_n (pc := 19) 0 dd_Reader_readInto_0.2.2.2.2.2.2.2.2.2.2.2.1 rfl rfl ?_
  refine g_iconst (pc := 20) (0 : Int32) dd_Reader_readInto_0.2.2.2.2.2.2.2.2.2.2.2.2.1 (by decide) ?_
  obtain ⟨h11, e12, hf⟩ := bd1_e hf
  refine g_put (pc := 21) (ci := 3) (kk := 5) ty_Reader tyok_Reader nm_Reader dd_Reader_readInto_0.2.2.2.2.2.2.2.2.2.2.2.2.2.1 rfl in_Reader (by decide) wd_41 rfl (fun _ => rfl) (fun _ => rfl) (fun _ z => by cases z) e12 ?_
  refine g_aload_n (pc := 24) 0 dd_Reader_readInto_0.2.2.2.2.2.2.2.2.2.2.2.2.2.2.1 rfl rfl ?_
  obtain ⟨u14, e13, hf⟩ := bd1_e hf
  obtain ⟨x17, h15, e16, hf⟩ := bd2_e hf
  refine g_callV (pc := 25) (ci := 3) [] (site_of si_Reader_takeToken (by decide) (by decide)) wd_357 wd_359 wp_0 dd_Reader_readInto_0.2.2.2.2.2.2.2.2.2.2.2.2.2.2.2.1 rfl e13 (Nat.le_of_ble_eq_true rfl) (fun z => absurd z si_na_Reader_takeToken) (fun z => absurd z si_na_Reader_takeToken) (fun z => absurd z si_na_Reader_takeToken) (c_Reader_takeToken e16) rfl ?_
  refine g_st [.int x17] rfl ?_
  refine g_istore_n (pc := 28) [(2, .int x17), (0, .ref a0), (1, .ref a1)] dd_Reader_readInto_0.2.2.2.2.2.2.2.2.2.2.2.2.2.2.2.2.1 rfl (Nat.le_of_ble_eq_true rfl) rfl ?_
  refine g_iconst (pc := 29) (0 : Int32) dd_Reader_readInto_0.2.2.2.2.2.2.2.2.2.2.2.2.2.2.2.2.2.1 (by decide) ?_
  refine g_istore_n (pc := 30) [(3, .int (0 : Int32)), (2, .int x17), (0, .ref a0), (1, .ref a1)] dd_Reader_readInto_0.2.2.2.2.2.2.2.2.2.2.2.2.2.2.2.2.2.2.1 rfl (Nat.le_of_ble_eq_true rfl) rfl ?_
  refine g_lv [2, 3, 1, 0] rfl ?_
  exact t_Reader_readInto_31  FU _ _ _ _ _ _ _  hf
def f_Reader_readInto (a0 : Nat) (a1 : Nat) (h : mH) : Option (Int32 × mH) := f_Reader_readInto_0 a0 a1 h
theorem c_Reader_readInto {sc : Nat × (Nat → Int32)} {a0 : Nat} {a1 : Nat} {h : mH} {r : Int32} {h' : mH} (hf : f_Reader_readInto a0 a1 h = some (r, h')) : MM sc y_Reader_readInto prog_4_method_3_code 4 (some .boolean) 6 128 [.ref a0, .ref a1] h (some (.int r)) h' :=
  mm_of_G si_pn_Reader (Nat.le_of_ble_eq_true rfl) (t_Reader_readInto_0 _ _ _ _ _ hf)
/-! Sightings copyFrom (LQuotaLaws$Sightings;)V -/
set_option maxRecDepth 100000 in
theorem dd_Sightings_copyFrom_0 : (decode prog_7_method_4_code 0 = .ok (.aload_n 0, 1)) ∧ (decode prog_7_method_4_code 1 = .ok (.aload_n 1, 1)) ∧ (decode prog_7_method_4_code 2 = .ok (.getfield 21, 3)) ∧ (decode prog_7_method_4_code 5 = .ok (.putfield 21, 3)) ∧ (decode prog_7_method_4_code 8 = .ok (.aload_n 1, 1)) ∧ (decode prog_7_method_4_code 9 = .ok (.getfield 9, 3)) ∧ (decode prog_7_method_4_code 12 = .ok (.iconst 0, 1)) ∧ (decode prog_7_method_4_code 13 = .ok (.aload_n 0, 1)) ∧ (decode prog_7_method_4_code 14 = .ok (.getfield 9, 3)) ∧ (decode prog_7_method_4_code 17 = .ok (.iconst 0, 1)) ∧ (decode prog_7_method_4_code 18 = .ok (.bipush 8, 2)) ∧ (decode prog_7_method_4_code 20 = .ok (.invokestatic 25, 3)) ∧ (decode prog_7_method_4_code 23 = .ok (.aload_n 1, 1)) ∧ (decode prog_7_method_4_code 24 = .ok (.getfield 15, 3)) ∧ (decode prog_7_method_4_code 27 = .ok (.iconst 0, 1)) ∧ (decode prog_7_method_4_code 28 = .ok (.aload_n 0, 1)) ∧ (decode prog_7_method_4_code 29 = .ok (.getfield 15, 3)) ∧ (decode prog_7_method_4_code 32 = .ok (.iconst 0, 1)) ∧ (decode prog_7_method_4_code 33 = .ok (.bipush 8, 2)) ∧ (decode prog_7_method_4_code 35 = .ok (.invokestatic 25, 3)) ∧ (decode prog_7_method_4_code 38 = .ok (.aload_n 1, 1)) ∧ (decode prog_7_method_4_code 39 = .ok (.getfield 18, 3)) ∧ (decode prog_7_method_4_code 42 = .ok (.iconst 0, 1)) ∧ (decode prog_7_method_4_code 43 = .ok (.aload_n 0, 1)) := by
  have h : List.drop 0 prog_7_method_4_code.data.toList = 0x2a :: _ := rfl
  refine ⟨zq_k_n 42 h rfl (zq_o_42 _), ?_⟩
  replace h := zq_nx1 (q := 1) h rfl
  refine ⟨zq_k_n 43 h rfl (zq_o_43 _), ?_⟩
  replace h := zq_nx1 (q := 2) h rfl
  refine ⟨zq_k_u2 180 (fun z => .getfield z) 21 h rfl (zq_o_180 _) (by decide +kernel), ?_⟩
  replace h := zq_nx3 (q := 5) h rfl
  refine ⟨zq_k_u2 181 (fun z => .putfield z) 21 h rfl (zq_o_181 _) (by decide +kernel), ?_⟩
  replace h := zq_nx3 (q := 8) h rfl
  refine ⟨zq_k_n 43 h rfl (zq_o_43 _), ?_⟩
  replace h := zq_nx1 (q := 9) h rfl
  refine ⟨zq_k_u2 180 (fun z => .getfield z) 9 h rfl (zq_o_180 _) (by decide +kernel), ?_⟩
  replace h := zq_nx3 (q := 12) h rfl
  refine ⟨zq_k_n 3 h rfl (zq_o_3 _), ?_⟩
  replace h := zq_nx1 (q := 13) h rfl
  refine ⟨zq_k_n 42 h rfl (zq_o_42 _), ?_⟩
  replace h := zq_nx1 (q := 14) h rfl
  refine ⟨zq_k_u2 180 (fun z => .getfield z) 9 h rfl (zq_o_180 _) (by decide +kernel), ?_⟩
  replace h := zq_nx3 (q := 17) h rfl
  refine ⟨zq_k_n 3 h rfl (zq_o_3 _), ?_⟩
  replace h := zq_nx1 (q := 18) h rfl
  refine ⟨zq_k_s1 16 (fun z => .bipush z) 8 h rfl (zq_o_16 _) (by decide +kernel), ?_⟩
  replace h := zq_nx2 (q := 20) h rfl
  refine ⟨zq_k_u2 184 (fun z => .invokestatic z) 25 h rfl (zq_o_184 _) (by decide +kernel), ?_⟩
  replace h := zq_nx3 (q := 23) h rfl
  refine ⟨zq_k_n 43 h rfl (zq_o_43 _), ?_⟩
  replace h := zq_nx1 (q := 24) h rfl
  refine ⟨zq_k_u2 180 (fun z => .getfield z) 15 h rfl (zq_o_180 _) (by decide +kernel), ?_⟩
  replace h := zq_nx3 (q := 27) h rfl
  refine ⟨zq_k_n 3 h rfl (zq_o_3 _), ?_⟩
  replace h := zq_nx1 (q := 28) h rfl
  refine ⟨zq_k_n 42 h rfl (zq_o_42 _), ?_⟩
  replace h := zq_nx1 (q := 29) h rfl
  refine ⟨zq_k_u2 180 (fun z => .getfield z) 15 h rfl (zq_o_180 _) (by decide +kernel), ?_⟩
  replace h := zq_nx3 (q := 32) h rfl
  refine ⟨zq_k_n 3 h rfl (zq_o_3 _), ?_⟩
  replace h := zq_nx1 (q := 33) h rfl
  refine ⟨zq_k_s1 16 (fun z => .bipush z) 8 h rfl (zq_o_16 _) (by decide +kernel), ?_⟩
  replace h := zq_nx2 (q := 35) h rfl
  refine ⟨zq_k_u2 184 (fun z => .invokestatic z) 25 h rfl (zq_o_184 _) (by decide +kernel), ?_⟩
  replace h := zq_nx3 (q := 38) h rfl
  refine ⟨zq_k_n 43 h rfl (zq_o_43 _), ?_⟩
  replace h := zq_nx1 (q := 39) h rfl
  refine ⟨zq_k_u2 180 (fun z => .getfield z) 18 h rfl (zq_o_180 _) (by decide +kernel), ?_⟩
  replace h := zq_nx3 (q := 42) h rfl
  refine ⟨zq_k_n 3 h rfl (zq_o_3 _), ?_⟩
  replace h := zq_nx1 (q := 43) h rfl
  exact zq_k_n 42 h rfl (zq_o_42 _)
set_option maxRecDepth 100000 in
theorem dd_Sightings_copyFrom_44 : (decode prog_7_method_4_code 44 = .ok (.getfield 18, 3)) ∧ (decode prog_7_method_4_code 47 = .ok (.iconst 0, 1)) ∧ (decode prog_7_method_4_code 48 = .ok (.bipush 8, 2)) ∧ (decode prog_7_method_4_code 50 = .ok (.invokestatic 25, 3)) ∧ (decode prog_7_method_4_code 53 = .ok (.return_, 1)) := by
  have h : List.drop 44 prog_7_method_4_code.data.toList = 0xb4 :: _ := rfl
  refine ⟨zq_k_u2 180 (fun z => .getfield z) 18 h rfl (zq_o_180 _) (by decide +kernel), ?_⟩
  replace h := zq_nx3 (q := 47) h rfl
  refine ⟨zq_k_n 3 h rfl (zq_o_3 _), ?_⟩
  replace h := zq_nx1 (q := 48) h rfl
  refine ⟨zq_k_s1 16 (fun z => .bipush z) 8 h rfl (zq_o_16 _) (by decide +kernel), ?_⟩
  replace h := zq_nx2 (q := 50) h rfl
  refine ⟨zq_k_u2 184 (fun z => .invokestatic z) 25 h rfl (zq_o_184 _) (by decide +kernel), ?_⟩
  replace h := zq_nx3 (q := 53) h rfl
  exact zq_k_n 177 h rfl (zq_o_177 _)
def f_Sightings_copyFrom_0  (a0 : Nat) (a1 : Nat) (h : mH) : Option mH :=
  bd1 (gI h a1 6 0) fun x1 =>
  bd1 (pV h a0 6 0 (.int x1)) fun h3 =>
  bd1 (gR h3 a1 6 1) fun x5 =>
  bd1 (gR h3 a0 6 1) fun x7 =>
  bd1 (cpI h3 0 x5 (0 : Int32) x7 (0 : Int32) (8 : Int32)) fun h9 =>
  bd1 (gR h9 a1 6 2) fun x11 =>
  bd1 (gR h9 a0 6 2) fun x13 =>
  bd1 (cpI h9 0 x11 (0 : Int32) x13 (0 : Int32) (8 : Int32)) fun h15 =>
  bd1 (gR h15 a1 6 3) fun x17 =>
  bd1 (gR h15 a0 6 3) fun x19 =>
  bd1 (cpI h15 0 x17 (0 : Int32) x19 (0 : Int32) (8 : Int32)) fun h21 =>
  some h21
set_option maxRecDepth 20000 in
theorem t_Sightings_copyFrom_0 {sc : Nat × (Nat → Int32)}  (a0 : Nat) (a1 : Nat) (h : mH) (h' : mH) (hf : f_Sightings_copyFrom_0  a0 a1 h = some h') : G sc y_Sightings_copyFrom prog_7_method_4_code 2 none 1 40 0 [(0, .ref a0), (1, .ref a1)] [] h none h' := by
  unfold f_Sightings_copyFrom_0 at hf
  refine g_aload_n (pc := 0) 0 dd_Sightings_copyFrom_0.1 rfl rfl ?_
  refine g_aload_n (pc := 1) 1 dd_Sightings_copyFrom_0.2.1 rfl rfl ?_
  obtain ⟨x1, e2, hf⟩ := bd1_e hf
  refine g_get (pc := 2) (ci := 6) (kk := 0) dd_Sightings_copyFrom_0.2.2.1 rfl in_Sightings (by decide) wd_77 (gI_spec e2) ?_
  obtain ⟨h3, e4, hf⟩ := bd1_e hf
  refine g_put (pc := 5) (ci := 6) (kk := 0) ty_Sightings tyok_Sightings nm_Sightings dd_Sightings_copyFrom_0.2.2.2.1 rfl in_Sightings (by decide) wd_77 rfl (fun _ => rfl) (fun _ => rfl) (fun _ z => by cases z) e4 ?_
  refine g_aload_n (pc := 8) 1 dd_Sightings_copyFrom_0.2.2.2.2.1 rfl rfl ?_
  obtain ⟨x5, e6, hf⟩ := bd1_e hf
  refine g_get (pc := 9) (ci := 6) (kk := 1) dd_Sightings_copyFrom_0.2.2.2.2.2.1 rfl in_Sightings (by decide) wd_80 (gR_spec e6) ?_
  refine g_iconst (pc := 12) (0 : Int32) dd_Sightings_copyFrom_0.2.2.2.2.2.2.1 (by decide) ?_
  refine g_aload_n (pc := 13) 0 dd_Sightings_copyFrom_0.2.2.2.2.2.2.2.1 rfl rfl ?_
  obtain ⟨x7, e8, hf⟩ := bd1_e hf
  refine g_get (pc := 14) (ci := 6) (kk := 1) dd_Sightings_copyFrom_0.2.2.2.2.2.2.2.2.1 rfl in_Sightings (by decide) wd_80 (gR_spec e8) ?_
  refine g_iconst (pc := 17) (0 : Int32) dd_Sightings_copyFrom_0.2.2.2.2.2.2.2.2.2.1 (by decide) ?_
  refine g_bipush (pc := 18) (8 : Int32) dd_Sightings_copyFrom_0.2.2.2.2.2.2.2.2.2.2.1 (by decide) ?_
  obtain ⟨h9, e10, hf⟩ := bd1_e hf
  refine g_copyi (pc := 20) dd_Sightings_copyFrom_0.2.2.2.2.2.2.2.2.2.2.2.1 wd_506 wd_501 wd_500 wd_15 (by decide) (Nat.le_of_ble_eq_true rfl) e10 ?_
  refine g_aload_n (pc := 23) 1 dd_Sightings_copyFrom_0.2.2.2.2.2.2.2.2.2.2.2.2.1 rfl rfl ?_
  obtain ⟨x11, e12, hf⟩ := bd1_e hf
  refine g_get (pc := 24) (ci := 6) (kk := 2) dd_Sightings_copyFrom_0.2.2.2.2.2.2.2.2.2.2.2.2.2.1 rfl in_Sightings (by decide) wd_81 (gR_spec e12) ?_
  refine g_iconst (pc := 27) (0 : Int32) dd_Sightings_copyFrom_0.2.2.2.2.2.2.2.2.2.2.2.2.2.2.1 (by decide) ?_
  refine g_aload_n (pc := 28) 0 dd_Sightings_copyFrom_0.2.2.2.2.2.2.2.2.2.2.2.2.2.2.2.1 rfl rfl ?_
  obtain ⟨x13, e14, hf⟩ := bd1_e hf
  refine g_get (pc := 29) (ci := 6) (kk := 2) dd_Sightings_copyFrom_0.2.2.2.2.2.2.2.2.2.2.2.2.2.2.2.2.1 rfl in_Sightings (by decide) wd_81 (gR_spec e14) ?_
  refine g_iconst (pc := 32) (0 : Int32) dd_Sightings_copyFrom_0.2.2.2.2.2.2.2.2.2.2.2.2.2.2.2.2.2.1 (by decide) ?_
  refine g_bipush (pc := 33) (8 : Int32) dd_Sightings_copyFrom_0.2.2.2.2.2.2.2.2.2.2.2.2.2.2.2.2.2.2.1 (by decide) ?_
  obtain ⟨h15, e16, hf⟩ := bd1_e hf
  refine g_copyi (pc := 35) dd_Sightings_copyFrom_0.2.2.2.2.2.2.2.2.2.2.2.2.2.2.2.2.2.2.2.1 wd_506 wd_501 wd_500 wd_15 (by decide) (Nat.le_of_ble_eq_true rfl) e16 ?_
  refine g_aload_n (pc := 38) 1 dd_Sightings_copyFrom_0.2.2.2.2.2.2.2.2.2.2.2.2.2.2.2.2.2.2.2.2.1 rfl rfl ?_
  obtain ⟨x17, e18, hf⟩ := bd1_e hf
  refine g_get (pc := 39) (ci := 6) (kk := 3) dd_Sightings_copyFrom_0.2.2.2.2.2.2.2.2.2.2.2.2.2.2.2.2.2.2.2.2.2.1 rfl in_Sightings (by decide) wd_82 (gR_spec e18) ?_
  refine g_iconst (pc := 42) (0 : Int32) dd_Sightings_copyFrom_0.2.2.2.2.2.2.2.2.2.2.2.2.2.2.2.2.2.2.2.2.2.2.1 (by decide) ?_
  refine g_aload_n (pc := 43) 0 dd_Sightings_copyFrom_0.2.2.2.2.2.2.2.2.2.2.2.2.2.2.2.2.2.2.2.2.2.2.2 rfl rfl ?_
  obtain ⟨x19, e20, hf⟩ := bd1_e hf
  refine g_get (pc := 44) (ci := 6) (kk := 3) dd_Sightings_copyFrom_44.1 rfl in_Sightings (by decide) wd_82 (gR_spec e20) ?_
  refine g_iconst (pc := 47) (0 : Int32) dd_Sightings_copyFrom_44.2.1 (by decide) ?_
  refine g_bipush (pc := 48) (8 : Int32) dd_Sightings_copyFrom_44.2.2.1 (by decide) ?_
  obtain ⟨h21, e22, hf⟩ := bd1_e hf
  refine g_copyi (pc := 50) dd_Sightings_copyFrom_44.2.2.2.1 wd_506 wd_501 wd_500 wd_15 (by decide) (Nat.le_of_ble_eq_true rfl) e22 ?_
  obtain rfl := ret1 hf
  exact g_vret (pc := 53) rfl dd_Sightings_copyFrom_44.2.2.2.2
def f_Sightings_copyFrom (a0 : Nat) (a1 : Nat) (h : mH) : Option mH := f_Sightings_copyFrom_0 a0 a1 h
theorem c_Sightings_copyFrom {sc : Nat × (Nat → Int32)} {a0 : Nat} {a1 : Nat} {h : mH} {h' : mH} (hf : f_Sightings_copyFrom a0 a1 h = some h') : MM sc y_Sightings_copyFrom prog_7_method_4_code 2 none 1 40 [.ref a0, .ref a1] h none h' :=
  mm_of_G si_pn_Sightings (Nat.le_of_ble_eq_true rfl) (t_Sightings_copyFrom_0 _ _ _ _ hf)
/-! Realm copyFrom (LQuotaLaws$Realm;)V -/
set_option maxRecDepth 100000 in
theorem dd_Realm_copyFrom_0 : (decode prog_5_method_3_code 0 = .ok (.aload_n 0, 1)) ∧ (decode prog_5_method_3_code 1 = .ok (.aload_n 1, 1)) ∧ (decode prog_5_method_3_code 2 = .ok (.getfield 55, 3)) ∧ (decode prog_5_method_3_code 5 = .ok (.putfield 55, 3)) ∧ (decode prog_5_method_3_code 8 = .ok (.aload_n 0, 1)) ∧ (decode prog_5_method_3_code 9 = .ok (.aload_n 1, 1)) ∧ (decode prog_5_method_3_code 10 = .ok (.getfield 59, 3)) ∧ (decode prog_5_method_3_code 13 = .ok (.putfield 59, 3)) ∧ (decode prog_5_method_3_code 16 = .ok (.aload_n 0, 1)) ∧ (decode prog_5_method_3_code 17 = .ok (.aload_n 1, 1)) ∧ (decode prog_5_method_3_code 18 = .ok (.getfield 62, 3)) ∧ (decode prog_5_method_3_code 21 = .ok (.putfield 62, 3)) ∧ (decode prog_5_method_3_code 24 = .ok (.aload_n 0, 1)) ∧ (decode prog_5_method_3_code 25 = .ok (.aload_n 1, 1)) ∧ (decode prog_5_method_3_code 26 = .ok (.getfield 65, 3)) ∧ (decode prog_5_method_3_code 29 = .ok (.putfield 65, 3)) ∧ (decode prog_5_method_3_code 32 = .ok (.aload_n 0, 1)) ∧ (decode prog_5_method_3_code 33 = .ok (.aload_n 1, 1)) ∧ (decode prog_5_method_3_code 34 = .ok (.getfield 68, 3)) ∧ (decode prog_5_method_3_code 37 = .ok (.putfield 68, 3)) ∧ (decode prog_5_method_3_code 40 = .ok (.aload_n 0, 1)) ∧ (decode prog_5_method_3_code 41 = .ok (.aload_n 1, 1)) ∧ (decode prog_5_method_3_code 42 = .ok (.getfield 71, 3)) ∧ (decode prog_5_method_3_code 45 = .ok (.putfield 71, 3)) := by
  have h : List.drop 0 prog_5_method_3_code.data.toList = 0x2a :: _ := rfl
  refine ⟨zq_k_n 42 h rfl (zq_o_42 _), ?_⟩
  replace h := zq_nx1 (q := 1) h rfl
  refine ⟨zq_k_n 43 h rfl (zq_o_43 _), ?_⟩
  replace h := zq_nx1 (q := 2) h rfl
  refine ⟨zq_k_u2 180 (fun z => .getfield z) 55 h rfl (zq_o_180 _) (by decide +kernel), ?_⟩
  replace h := zq_nx3 (q := 5) h rfl
  refine ⟨zq_k_u2 181 (fun z => .putfield z) 55 h rfl (zq_o_181 _) (by decide +kernel), ?_⟩
  replace h := zq_nx3 (q := 8) h rfl
  refine ⟨zq_k_n 42 h rfl (zq_o_42 _), ?_⟩
  replace h := zq_nx1 (q := 9) h rfl
  refine ⟨zq_k_n 43 h rfl (zq_o_43 _), ?_⟩
  replace h := zq_nx1 (q := 10) h rfl
  refine ⟨zq_k_u2 180 (fun z => .getfield z) 59 h rfl (zq_o_180 _) (by decide +kernel), ?_⟩
  replace h := zq_nx3 (q := 13) h rfl
  refine ⟨zq_k_u2 181 (fun z => .putfield z) 59 h rfl (zq_o_181 _) (by decide +kernel), ?_⟩
  replace h := zq_nx3 (q := 16) h rfl
  refine ⟨zq_k_n 42 h rfl (zq_o_42 _), ?_⟩
  replace h := zq_nx1 (q := 17) h rfl
  refine ⟨zq_k_n 43 h rfl (zq_o_43 _), ?_⟩
  replace h := zq_nx1 (q := 18) h rfl
  refine ⟨zq_k_u2 180 (fun z => .getfield z) 62 h rfl (zq_o_180 _) (by decide +kernel), ?_⟩
  replace h := zq_nx3 (q := 21) h rfl
  refine ⟨zq_k_u2 181 (fun z => .putfield z) 62 h rfl (zq_o_181 _) (by decide +kernel), ?_⟩
  replace h := zq_nx3 (q := 24) h rfl
  refine ⟨zq_k_n 42 h rfl (zq_o_42 _), ?_⟩
  replace h := zq_nx1 (q := 25) h rfl
  refine ⟨zq_k_n 43 h rfl (zq_o_43 _), ?_⟩
  replace h := zq_nx1 (q := 26) h rfl
  refine ⟨zq_k_u2 180 (fun z => .getfield z) 65 h rfl (zq_o_180 _) (by decide +kernel), ?_⟩
  replace h := zq_nx3 (q := 29) h rfl
  refine ⟨zq_k_u2 181 (fun z => .putfield z) 65 h rfl (zq_o_181 _) (by decide +kernel), ?_⟩
  replace h := zq_nx3 (q := 32) h rfl
  refine ⟨zq_k_n 42 h rfl (zq_o_42 _), ?_⟩
  replace h := zq_nx1 (q := 33) h rfl
  refine ⟨zq_k_n 43 h rfl (zq_o_43 _), ?_⟩
  replace h := zq_nx1 (q := 34) h rfl
  refine ⟨zq_k_u2 180 (fun z => .getfield z) 68 h rfl (zq_o_180 _) (by decide +kernel), ?_⟩
  replace h := zq_nx3 (q := 37) h rfl
  refine ⟨zq_k_u2 181 (fun z => .putfield z) 68 h rfl (zq_o_181 _) (by decide +kernel), ?_⟩
  replace h := zq_nx3 (q := 40) h rfl
  refine ⟨zq_k_n 42 h rfl (zq_o_42 _), ?_⟩
  replace h := zq_nx1 (q := 41) h rfl
  refine ⟨zq_k_n 43 h rfl (zq_o_43 _), ?_⟩
  replace h := zq_nx1 (q := 42) h rfl
  refine ⟨zq_k_u2 180 (fun z => .getfield z) 71 h rfl (zq_o_180 _) (by decide +kernel), ?_⟩
  replace h := zq_nx3 (q := 45) h rfl
  exact zq_k_u2 181 (fun z => .putfield z) 71 h rfl (zq_o_181 _) (by decide +kernel)
set_option maxRecDepth 100000 in
theorem dd_Realm_copyFrom_48 : (decode prog_5_method_3_code 48 = .ok (.aload_n 1, 1)) ∧ (decode prog_5_method_3_code 49 = .ok (.getfield 9, 3)) ∧ (decode prog_5_method_3_code 52 = .ok (.iconst 0, 1)) ∧ (decode prog_5_method_3_code 53 = .ok (.aload_n 0, 1)) ∧ (decode prog_5_method_3_code 54 = .ok (.getfield 9, 3)) ∧ (decode prog_5_method_3_code 57 = .ok (.iconst 0, 1)) ∧ (decode prog_5_method_3_code 58 = .ok (.iconst 5, 1)) ∧ (decode prog_5_method_3_code 59 = .ok (.invokestatic 83, 3)) ∧ (decode prog_5_method_3_code 62 = .ok (.aload_n 1, 1)) ∧ (decode prog_5_method_3_code 63 = .ok (.getfield 15, 3)) ∧ (decode prog_5_method_3_code 66 = .ok (.iconst 0, 1)) ∧ (decode prog_5_method_3_code 67 = .ok (.aload_n 0, 1)) ∧ (decode prog_5_method_3_code 68 = .ok (.getfield 15, 3)) ∧ (decode prog_5_method_3_code 71 = .ok (.iconst 0, 1)) ∧ (decode prog_5_method_3_code 72 = .ok (.iconst 5, 1)) ∧ (decode prog_5_method_3_code 73 = .ok (.invokestatic 83, 3)) ∧ (decode prog_5_method_3_code 76 = .ok (.aload_n 1, 1)) ∧ (decode prog_5_method_3_code 77 = .ok (.getfield 18, 3)) ∧ (decode prog_5_method_3_code 80 = .ok (.iconst 0, 1)) ∧ (decode prog_5_method_3_code 81 = .ok (.aload_n 0, 1)) ∧ (decode prog_5_method_3_code 82 = .ok (.getfield 18, 3)) ∧ (decode prog_5_method_3_code 85 = .ok (.iconst 0, 1)) ∧ (decode prog_5_method_3_code 86 = .ok (.iconst 5, 1)) ∧ (decode prog_5_method_3_code 87 = .ok (.invokestatic 83, 3)) := by
  have h : List.drop 48 prog_5_method_3_code.data.toList = 0x2b :: _ := rfl
  refine ⟨zq_k_n 43 h rfl (zq_o_43 _), ?_⟩
  replace h := zq_nx1 (q := 49) h rfl
  refine ⟨zq_k_u2 180 (fun z => .getfield z) 9 h rfl (zq_o_180 _) (by decide +kernel), ?_⟩
  replace h := zq_nx3 (q := 52) h rfl
  refine ⟨zq_k_n 3 h rfl (zq_o_3 _), ?_⟩
  replace h := zq_nx1 (q := 53) h rfl
  refine ⟨zq_k_n 42 h rfl (zq_o_42 _), ?_⟩
  replace h := zq_nx1 (q := 54) h rfl
  refine ⟨zq_k_u2 180 (fun z => .getfield z) 9 h rfl (zq_o_180 _) (by decide +kernel), ?_⟩
  replace h := zq_nx3 (q := 57) h rfl
  refine ⟨zq_k_n 3 h rfl (zq_o_3 _), ?_⟩
  replace h := zq_nx1 (q := 58) h rfl
  refine ⟨zq_k_n 8 h rfl (zq_o_8 _), ?_⟩
  replace h := zq_nx1 (q := 59) h rfl
  refine ⟨zq_k_u2 184 (fun z => .invokestatic z) 83 h rfl (zq_o_184 _) (by decide +kernel), ?_⟩
  replace h := zq_nx3 (q := 62) h rfl
  refine ⟨zq_k_n 43 h rfl (zq_o_43 _), ?_⟩
  replace h := zq_nx1 (q := 63) h rfl
  refine ⟨zq_k_u2 180 (fun z => .getfield z) 15 h rfl (zq_o_180 _) (by decide +kernel), ?_⟩
  replace h := zq_nx3 (q := 66) h rfl
  refine ⟨zq_k_n 3 h rfl (zq_o_3 _), ?_⟩
  replace h := zq_nx1 (q := 67) h rfl
  refine ⟨zq_k_n 42 h rfl (zq_o_42 _), ?_⟩
  replace h := zq_nx1 (q := 68) h rfl
  refine ⟨zq_k_u2 180 (fun z => .getfield z) 15 h rfl (zq_o_180 _) (by decide +kernel), ?_⟩
  replace h := zq_nx3 (q := 71) h rfl
  refine ⟨zq_k_n 3 h rfl (zq_o_3 _), ?_⟩
  replace h := zq_nx1 (q := 72) h rfl
  refine ⟨zq_k_n 8 h rfl (zq_o_8 _), ?_⟩
  replace h := zq_nx1 (q := 73) h rfl
  refine ⟨zq_k_u2 184 (fun z => .invokestatic z) 83 h rfl (zq_o_184 _) (by decide +kernel), ?_⟩
  replace h := zq_nx3 (q := 76) h rfl
  refine ⟨zq_k_n 43 h rfl (zq_o_43 _), ?_⟩
  replace h := zq_nx1 (q := 77) h rfl
  refine ⟨zq_k_u2 180 (fun z => .getfield z) 18 h rfl (zq_o_180 _) (by decide +kernel), ?_⟩
  replace h := zq_nx3 (q := 80) h rfl
  refine ⟨zq_k_n 3 h rfl (zq_o_3 _), ?_⟩
  replace h := zq_nx1 (q := 81) h rfl
  refine ⟨zq_k_n 42 h rfl (zq_o_42 _), ?_⟩
  replace h := zq_nx1 (q := 82) h rfl
  refine ⟨zq_k_u2 180 (fun z => .getfield z) 18 h rfl (zq_o_180 _) (by decide +kernel), ?_⟩
  replace h := zq_nx3 (q := 85) h rfl
  refine ⟨zq_k_n 3 h rfl (zq_o_3 _), ?_⟩
  replace h := zq_nx1 (q := 86) h rfl
  refine ⟨zq_k_n 8 h rfl (zq_o_8 _), ?_⟩
  replace h := zq_nx1 (q := 87) h rfl
  exact zq_k_u2 184 (fun z => .invokestatic z) 83 h rfl (zq_o_184 _) (by decide +kernel)
set_option maxRecDepth 100000 in
theorem dd_Realm_copyFrom_90 : (decode prog_5_method_3_code 90 = .ok (.aload_n 1, 1)) ∧ (decode prog_5_method_3_code 91 = .ok (.getfield 21, 3)) ∧ (decode prog_5_method_3_code 94 = .ok (.iconst 0, 1)) ∧ (decode prog_5_method_3_code 95 = .ok (.aload_n 0, 1)) ∧ (decode prog_5_method_3_code 96 = .ok (.getfield 21, 3)) ∧ (decode prog_5_method_3_code 99 = .ok (.iconst 0, 1)) ∧ (decode prog_5_method_3_code 100 = .ok (.iconst 5, 1)) ∧ (decode prog_5_method_3_code 101 = .ok (.invokestatic 83, 3)) ∧ (decode prog_5_method_3_code 104 = .ok (.aload_n 1, 1)) ∧ (decode prog_5_method_3_code 105 = .ok (.getfield 24, 3)) ∧ (decode prog_5_method_3_code 108 = .ok (.iconst 0, 1)) ∧ (decode prog_5_method_3_code 109 = .ok (.aload_n 0, 1)) ∧ (decode prog_5_method_3_code 110 = .ok (.getfield 24, 3)) ∧ (decode prog_5_method_3_code 113 = .ok (.iconst 0, 1)) ∧ (decode prog_5_method_3_code 114 = .ok (.iconst 5, 1)) ∧ (decode prog_5_method_3_code 115 = .ok (.invokestatic 83, 3)) ∧ (decode prog_5_method_3_code 118 = .ok (.aload_n 1, 1)) ∧ (decode prog_5_method_3_code 119 = .ok (.getfield 27, 3)) ∧ (decode prog_5_method_3_code 122 = .ok (.iconst 0, 1)) ∧ (decode prog_5_method_3_code 123 = .ok (.aload_n 0, 1)) ∧ (decode prog_5_method_3_code 124 = .ok (.getfield 27, 3)) ∧ (decode prog_5_method_3_code 127 = .ok (.iconst 0, 1)) ∧ (decode prog_5_method_3_code 128 = .ok (.iconst 3, 1)) ∧ (decode prog_5_method_3_code 129 = .ok (.invokestatic 83, 3)) := by
  have h : List.drop 90 prog_5_method_3_code.data.toList = 0x2b :: _ := rfl
  refine ⟨zq_k_n 43 h rfl (zq_o_43 _), ?_⟩
  replace h := zq_nx1 (q := 91) h rfl
  refine ⟨zq_k_u2 180 (fun z => .getfield z) 21 h rfl (zq_o_180 _) (by decide +kernel), ?_⟩
  replace h := zq_nx3 (q := 94) h rfl
  refine ⟨zq_k_n 3 h rfl (zq_o_3 _), ?_⟩
  replace h := zq_nx1 (q := 95) h rfl
  refine ⟨zq_k_n 42 h rfl (zq_o_42 _), ?_⟩
  replace h := zq_nx1 (q := 96) h rfl
  refine ⟨zq_k_u2 180 (fun z => .getfield z) 21 h rfl (zq_o_180 _) (by decide +kernel), ?_⟩
  replace h := zq_nx3 (q := 99) h rfl
  refine ⟨zq_k_n 3 h rfl (zq_o_3 _), ?_⟩
  replace h := zq_nx1 (q := 100) h rfl
  refine ⟨zq_k_n 8 h rfl (zq_o_8 _), ?_⟩
  replace h := zq_nx1 (q := 101) h rfl
  refine ⟨zq_k_u2 184 (fun z => .invokestatic z) 83 h rfl (zq_o_184 _) (by decide +kernel), ?_⟩
  replace h := zq_nx3 (q := 104) h rfl
  refine ⟨zq_k_n 43 h rfl (zq_o_43 _), ?_⟩
  replace h := zq_nx1 (q := 105) h rfl
  refine ⟨zq_k_u2 180 (fun z => .getfield z) 24 h rfl (zq_o_180 _) (by decide +kernel), ?_⟩
  replace h := zq_nx3 (q := 108) h rfl
  refine ⟨zq_k_n 3 h rfl (zq_o_3 _), ?_⟩
  replace h := zq_nx1 (q := 109) h rfl
  refine ⟨zq_k_n 42 h rfl (zq_o_42 _), ?_⟩
  replace h := zq_nx1 (q := 110) h rfl
  refine ⟨zq_k_u2 180 (fun z => .getfield z) 24 h rfl (zq_o_180 _) (by decide +kernel), ?_⟩
  replace h := zq_nx3 (q := 113) h rfl
  refine ⟨zq_k_n 3 h rfl (zq_o_3 _), ?_⟩
  replace h := zq_nx1 (q := 114) h rfl
  refine ⟨zq_k_n 8 h rfl (zq_o_8 _), ?_⟩
  replace h := zq_nx1 (q := 115) h rfl
  refine ⟨zq_k_u2 184 (fun z => .invokestatic z) 83 h rfl (zq_o_184 _) (by decide +kernel), ?_⟩
  replace h := zq_nx3 (q := 118) h rfl
  refine ⟨zq_k_n 43 h rfl (zq_o_43 _), ?_⟩
  replace h := zq_nx1 (q := 119) h rfl
  refine ⟨zq_k_u2 180 (fun z => .getfield z) 27 h rfl (zq_o_180 _) (by decide +kernel), ?_⟩
  replace h := zq_nx3 (q := 122) h rfl
  refine ⟨zq_k_n 3 h rfl (zq_o_3 _), ?_⟩
  replace h := zq_nx1 (q := 123) h rfl
  refine ⟨zq_k_n 42 h rfl (zq_o_42 _), ?_⟩
  replace h := zq_nx1 (q := 124) h rfl
  refine ⟨zq_k_u2 180 (fun z => .getfield z) 27 h rfl (zq_o_180 _) (by decide +kernel), ?_⟩
  replace h := zq_nx3 (q := 127) h rfl
  refine ⟨zq_k_n 3 h rfl (zq_o_3 _), ?_⟩
  replace h := zq_nx1 (q := 128) h rfl
  refine ⟨zq_k_n 6 h rfl (zq_o_6 _), ?_⟩
  replace h := zq_nx1 (q := 129) h rfl
  exact zq_k_u2 184 (fun z => .invokestatic z) 83 h rfl (zq_o_184 _) (by decide +kernel)
set_option maxRecDepth 100000 in
theorem dd_Realm_copyFrom_132 : (decode prog_5_method_3_code 132 = .ok (.aload_n 1, 1)) ∧ (decode prog_5_method_3_code 133 = .ok (.getfield 30, 3)) ∧ (decode prog_5_method_3_code 136 = .ok (.iconst 0, 1)) ∧ (decode prog_5_method_3_code 137 = .ok (.aload_n 0, 1)) ∧ (decode prog_5_method_3_code 138 = .ok (.getfield 30, 3)) ∧ (decode prog_5_method_3_code 141 = .ok (.iconst 0, 1)) ∧ (decode prog_5_method_3_code 142 = .ok (.iconst 3, 1)) ∧ (decode prog_5_method_3_code 143 = .ok (.invokestatic 83, 3)) ∧ (decode prog_5_method_3_code 146 = .ok (.aload_n 1, 1)) ∧ (decode prog_5_method_3_code 147 = .ok (.getfield 33, 3)) ∧ (decode prog_5_method_3_code 150 = .ok (.iconst 0, 1)) ∧ (decode prog_5_method_3_code 151 = .ok (.aload_n 0, 1)) ∧ (decode prog_5_method_3_code 152 = .ok (.getfield 33, 3)) ∧ (decode prog_5_method_3_code 155 = .ok (.iconst 0, 1)) ∧ (decode prog_5_method_3_code 156 = .ok (.iconst 3, 1)) ∧ (decode prog_5_method_3_code 157 = .ok (.invokestatic 83, 3)) ∧ (decode prog_5_method_3_code 160 = .ok (.aload_n 1, 1)) ∧ (decode prog_5_method_3_code 161 = .ok (.getfield 36, 3)) ∧ (decode prog_5_method_3_code 164 = .ok (.iconst 0, 1)) ∧ (decode prog_5_method_3_code 165 = .ok (.aload_n 0, 1)) ∧ (decode prog_5_method_3_code 166 = .ok (.getfield 36, 3)) ∧ (decode prog_5_method_3_code 169 = .ok (.iconst 0, 1)) ∧ (decode prog_5_method_3_code 170 = .ok (.iconst 3, 1)) ∧ (decode prog_5_method_3_code 171 = .ok (.invokestatic 83, 3)) := by
  have h : List.drop 132 prog_5_method_3_code.data.toList = 0x2b :: _ := rfl
  refine ⟨zq_k_n 43 h rfl (zq_o_43 _), ?_⟩
  replace h := zq_nx1 (q := 133) h rfl
  refine ⟨zq_k_u2 180 (fun z => .getfield z) 30 h rfl (zq_o_180 _) (by decide +kernel), ?_⟩
  replace h := zq_nx3 (q := 136) h rfl
  refine ⟨zq_k_n 3 h rfl (zq_o_3 _), ?_⟩
  replace h := zq_nx1 (q := 137) h rfl
  refine ⟨zq_k_n 42 h rfl (zq_o_42 _), ?_⟩
  replace h := zq_nx1 (q := 138) h rfl
  refine ⟨zq_k_u2 180 (fun z => .getfield z) 30 h rfl (zq_o_180 _) (by decide +kernel), ?_⟩
  replace h := zq_nx3 (q := 141) h rfl
  refine ⟨zq_k_n 3 h rfl (zq_o_3 _), ?_⟩
  replace h := zq_nx1 (q := 142) h rfl
  refine ⟨zq_k_n 6 h rfl (zq_o_6 _), ?_⟩
  replace h := zq_nx1 (q := 143) h rfl
  refine ⟨zq_k_u2 184 (fun z => .invokestatic z) 83 h rfl (zq_o_184 _) (by decide +kernel), ?_⟩
  replace h := zq_nx3 (q := 146) h rfl
  refine ⟨zq_k_n 43 h rfl (zq_o_43 _), ?_⟩
  replace h := zq_nx1 (q := 147) h rfl
  refine ⟨zq_k_u2 180 (fun z => .getfield z) 33 h rfl (zq_o_180 _) (by decide +kernel), ?_⟩
  replace h := zq_nx3 (q := 150) h rfl
  refine ⟨zq_k_n 3 h rfl (zq_o_3 _), ?_⟩
  replace h := zq_nx1 (q := 151) h rfl
  refine ⟨zq_k_n 42 h rfl (zq_o_42 _), ?_⟩
  replace h := zq_nx1 (q := 152) h rfl
  refine ⟨zq_k_u2 180 (fun z => .getfield z) 33 h rfl (zq_o_180 _) (by decide +kernel), ?_⟩
  replace h := zq_nx3 (q := 155) h rfl
  refine ⟨zq_k_n 3 h rfl (zq_o_3 _), ?_⟩
  replace h := zq_nx1 (q := 156) h rfl
  refine ⟨zq_k_n 6 h rfl (zq_o_6 _), ?_⟩
  replace h := zq_nx1 (q := 157) h rfl
  refine ⟨zq_k_u2 184 (fun z => .invokestatic z) 83 h rfl (zq_o_184 _) (by decide +kernel), ?_⟩
  replace h := zq_nx3 (q := 160) h rfl
  refine ⟨zq_k_n 43 h rfl (zq_o_43 _), ?_⟩
  replace h := zq_nx1 (q := 161) h rfl
  refine ⟨zq_k_u2 180 (fun z => .getfield z) 36 h rfl (zq_o_180 _) (by decide +kernel), ?_⟩
  replace h := zq_nx3 (q := 164) h rfl
  refine ⟨zq_k_n 3 h rfl (zq_o_3 _), ?_⟩
  replace h := zq_nx1 (q := 165) h rfl
  refine ⟨zq_k_n 42 h rfl (zq_o_42 _), ?_⟩
  replace h := zq_nx1 (q := 166) h rfl
  refine ⟨zq_k_u2 180 (fun z => .getfield z) 36 h rfl (zq_o_180 _) (by decide +kernel), ?_⟩
  replace h := zq_nx3 (q := 169) h rfl
  refine ⟨zq_k_n 3 h rfl (zq_o_3 _), ?_⟩
  replace h := zq_nx1 (q := 170) h rfl
  refine ⟨zq_k_n 6 h rfl (zq_o_6 _), ?_⟩
  replace h := zq_nx1 (q := 171) h rfl
  exact zq_k_u2 184 (fun z => .invokestatic z) 83 h rfl (zq_o_184 _) (by decide +kernel)
set_option maxRecDepth 100000 in
theorem dd_Realm_copyFrom_174 : (decode prog_5_method_3_code 174 = .ok (.aload_n 1, 1)) ∧ (decode prog_5_method_3_code 175 = .ok (.getfield 39, 3)) ∧ (decode prog_5_method_3_code 178 = .ok (.iconst 0, 1)) ∧ (decode prog_5_method_3_code 179 = .ok (.aload_n 0, 1)) ∧ (decode prog_5_method_3_code 180 = .ok (.getfield 39, 3)) ∧ (decode prog_5_method_3_code 183 = .ok (.iconst 0, 1)) ∧ (decode prog_5_method_3_code 184 = .ok (.iconst 3, 1)) ∧ (decode prog_5_method_3_code 185 = .ok (.invokestatic 83, 3)) ∧ (decode prog_5_method_3_code 188 = .ok (.aload_n 1, 1)) ∧ (decode prog_5_method_3_code 189 = .ok (.getfield 42, 3)) ∧ (decode prog_5_method_3_code 192 = .ok (.iconst 0, 1)) ∧ (decode prog_5_method_3_code 193 = .ok (.aload_n 0, 1)) ∧ (decode prog_5_method_3_code 194 = .ok (.getfield 42, 3)) ∧ (decode prog_5_method_3_code 197 = .ok (.iconst 0, 1)) ∧ (decode prog_5_method_3_code 198 = .ok (.iconst 3, 1)) ∧ (decode prog_5_method_3_code 199 = .ok (.invokestatic 83, 3)) ∧ (decode prog_5_method_3_code 202 = .ok (.aload_n 1, 1)) ∧ (decode prog_5_method_3_code 203 = .ok (.getfield 45, 3)) ∧ (decode prog_5_method_3_code 206 = .ok (.iconst 0, 1)) ∧ (decode prog_5_method_3_code 207 = .ok (.aload_n 0, 1)) ∧ (decode prog_5_method_3_code 208 = .ok (.getfield 45, 3)) ∧ (decode prog_5_method_3_code 211 = .ok (.iconst 0, 1)) ∧ (decode prog_5_method_3_code 212 = .ok (.bipush 15, 2)) ∧ (decode prog_5_method_3_code 214 = .ok (.invokestatic 83, 3)) := by
  have h : List.drop 174 prog_5_method_3_code.data.toList = 0x2b :: _ := rfl
  refine ⟨zq_k_n 43 h rfl (zq_o_43 _), ?_⟩
  replace h := zq_nx1 (q := 175) h rfl
  refine ⟨zq_k_u2 180 (fun z => .getfield z) 39 h rfl (zq_o_180 _) (by decide +kernel), ?_⟩
  replace h := zq_nx3 (q := 178) h rfl
  refine ⟨zq_k_n 3 h rfl (zq_o_3 _), ?_⟩
  replace h := zq_nx1 (q := 179) h rfl
  refine ⟨zq_k_n 42 h rfl (zq_o_42 _), ?_⟩
  replace h := zq_nx1 (q := 180) h rfl
  refine ⟨zq_k_u2 180 (fun z => .getfield z) 39 h rfl (zq_o_180 _) (by decide +kernel), ?_⟩
  replace h := zq_nx3 (q := 183) h rfl
  refine ⟨zq_k_n 3 h rfl (zq_o_3 _), ?_⟩
  replace h := zq_nx1 (q := 184) h rfl
  refine ⟨zq_k_n 6 h rfl (zq_o_6 _), ?_⟩
  replace h := zq_nx1 (q := 185) h rfl
  refine ⟨zq_k_u2 184 (fun z => .invokestatic z) 83 h rfl (zq_o_184 _) (by decide +kernel), ?_⟩
  replace h := zq_nx3 (q := 188) h rfl
  refine ⟨zq_k_n 43 h rfl (zq_o_43 _), ?_⟩
  replace h := zq_nx1 (q := 189) h rfl
  refine ⟨zq_k_u2 180 (fun z => .getfield z) 42 h rfl (zq_o_180 _) (by decide +kernel), ?_⟩
  replace h := zq_nx3 (q := 192) h rfl
  refine ⟨zq_k_n 3 h rfl (zq_o_3 _), ?_⟩
  replace h := zq_nx1 (q := 193) h rfl
  refine ⟨zq_k_n 42 h rfl (zq_o_42 _), ?_⟩
  replace h := zq_nx1 (q := 194) h rfl
  refine ⟨zq_k_u2 180 (fun z => .getfield z) 42 h rfl (zq_o_180 _) (by decide +kernel), ?_⟩
  replace h := zq_nx3 (q := 197) h rfl
  refine ⟨zq_k_n 3 h rfl (zq_o_3 _), ?_⟩
  replace h := zq_nx1 (q := 198) h rfl
  refine ⟨zq_k_n 6 h rfl (zq_o_6 _), ?_⟩
  replace h := zq_nx1 (q := 199) h rfl
  refine ⟨zq_k_u2 184 (fun z => .invokestatic z) 83 h rfl (zq_o_184 _) (by decide +kernel), ?_⟩
  replace h := zq_nx3 (q := 202) h rfl
  refine ⟨zq_k_n 43 h rfl (zq_o_43 _), ?_⟩
  replace h := zq_nx1 (q := 203) h rfl
  refine ⟨zq_k_u2 180 (fun z => .getfield z) 45 h rfl (zq_o_180 _) (by decide +kernel), ?_⟩
  replace h := zq_nx3 (q := 206) h rfl
  refine ⟨zq_k_n 3 h rfl (zq_o_3 _), ?_⟩
  replace h := zq_nx1 (q := 207) h rfl
  refine ⟨zq_k_n 42 h rfl (zq_o_42 _), ?_⟩
  replace h := zq_nx1 (q := 208) h rfl
  refine ⟨zq_k_u2 180 (fun z => .getfield z) 45 h rfl (zq_o_180 _) (by decide +kernel), ?_⟩
  replace h := zq_nx3 (q := 211) h rfl
  refine ⟨zq_k_n 3 h rfl (zq_o_3 _), ?_⟩
  replace h := zq_nx1 (q := 212) h rfl
  refine ⟨zq_k_s1 16 (fun z => .bipush z) 15 h rfl (zq_o_16 _) (by decide +kernel), ?_⟩
  replace h := zq_nx2 (q := 214) h rfl
  exact zq_k_u2 184 (fun z => .invokestatic z) 83 h rfl (zq_o_184 _) (by decide +kernel)
set_option maxRecDepth 100000 in
theorem dd_Realm_copyFrom_217 : (decode prog_5_method_3_code 217 = .ok (.aload_n 0, 1)) ∧ (decode prog_5_method_3_code 218 = .ok (.getfield 51, 3)) ∧ (decode prog_5_method_3_code 221 = .ok (.aload_n 1, 1)) ∧ (decode prog_5_method_3_code 222 = .ok (.getfield 51, 3)) ∧ (decode prog_5_method_3_code 225 = .ok (.invokevirtual 89, 3)) ∧ (decode prog_5_method_3_code 228 = .ok (.return_, 1)) := by
  have h : List.drop 217 prog_5_method_3_code.data.toList = 0x2a :: _ := rfl
  refine ⟨zq_k_n 42 h rfl (zq_o_42 _), ?_⟩
  replace h := zq_nx1 (q := 218) h rfl
  refine ⟨zq_k_u2 180 (fun z => .getfield z) 51 h rfl (zq_o_180 _) (by decide +kernel), ?_⟩
  replace h := zq_nx3 (q := 221) h rfl
  refine ⟨zq_k_n 43 h rfl (zq_o_43 _), ?_⟩
  replace h := zq_nx1 (q := 222) h rfl
  refine ⟨zq_k_u2 180 (fun z => .getfield z) 51 h rfl (zq_o_180 _) (by decide +kernel), ?_⟩
  replace h := zq_nx3 (q := 225) h rfl
  refine ⟨zq_k_u2 182 (fun z => .invokevirtual z) 89 h rfl (zq_o_182 _) (by decide +kernel), ?_⟩
  replace h := zq_nx3 (q := 228) h rfl
  exact zq_k_n 177 h rfl (zq_o_177 _)
def f_Realm_copyFrom_0  (a0 : Nat) (a1 : Nat) (h : mH) : Option mH :=
  bd1 (gI h a1 4 0) fun x1 =>
  bd1 (pV h a0 4 0 (.int x1)) fun h3 =>
  bd1 (gI h3 a1 4 1) fun x5 =>
  bd1 (pV h3 a0 4 1 (.int x5)) fun h7 =>
  bd1 (gI h7 a1 4 2) fun x9 =>
  bd1 (pV h7 a0 4 2 (.int x9)) fun h11 =>
  bd1 (gI h11 a1 4 3) fun x13 =>
  bd1 (pV h11 a0 4 3 (.int x13)) fun h15 =>
  bd1 (gI h15 a1 4 4) fun x17 =>
  bd1 (pV h15 a0 4 4 (.int x17)) fun h19 =>
  bd1 (gI h19 a1 4 5) fun x21 =>
  bd1 (pV h19 a0 4 5 (.int x21)) fun h23 =>
  bd1 (gR h23 a1 4 6) fun x25 =>
  bd1 (gR h23 a0 4 6) fun x27 =>
  bd1 (cpI h23 0 x25 (0 : Int32) x27 (0 : Int32) (5 : Int32)) fun h29 =>
  bd1 (gR h29 a1 4 7) fun x31 =>
  bd1 (gR h29 a0 4 7) fun x33 =>
  bd1 (cpI h29 0 x31 (0 : Int32) x33 (0 : Int32) (5 : Int32)) fun h35 =>
  bd1 (gR h35 a1 4 8) fun x37 =>
  bd1 (gR h35 a0 4 8) fun x39 =>
  bd1 (cpI h35 0 x37 (0 : Int32) x39 (0 : Int32) (5 : Int32)) fun h41 =>
  bd1 (gR h41 a1 4 9) fun x43 =>
  bd1 (gR h41 a0 4 9) fun x45 =>
  bd1 (cpI h41 0 x43 (0 : Int32) x45 (0 : Int32) (5 : Int32)) fun h47 =>
  bd1 (gR h47 a1 4 10) fun x49 =>
  bd1 (gR h47 a0 4 10) fun x51 =>
  bd1 (cpI h47 0 x49 (0 : Int32) x51 (0 : Int32) (5 : Int32)) fun h53 =>
  bd1 (gR h53 a1 4 11) fun x55 =>
  bd1 (gR h53 a0 4 11) fun x57 =>
  bd1 (cpI h53 0 x55 (0 : Int32) x57 (0 : Int32) (3 : Int32)) fun h59 =>
  bd1 (gR h59 a1 4 12) fun x61 =>
  bd1 (gR h59 a0 4 12) fun x63 =>
  bd1 (cpI h59 0 x61 (0 : Int32) x63 (0 : Int32) (3 : Int32)) fun h65 =>
  bd1 (gR h65 a1 4 13) fun x67 =>
  bd1 (gR h65 a0 4 13) fun x69 =>
  bd1 (cpI h65 0 x67 (0 : Int32) x69 (0 : Int32) (3 : Int32)) fun h71 =>
  bd1 (gR h71 a1 4 14) fun x73 =>
  bd1 (gR h71 a0 4 14) fun x75 =>
  bd1 (cpI h71 0 x73 (0 : Int32) x75 (0 : Int32) (3 : Int32)) fun h77 =>
  bd1 (gR h77 a1 4 15) fun x79 =>
  bd1 (gR h77 a0 4 15) fun x81 =>
  bd1 (cpI h77 0 x79 (0 : Int32) x81 (0 : Int32) (3 : Int32)) fun h83 =>
  bd1 (gR h83 a1 4 16) fun x85 =>
  bd1 (gR h83 a0 4 16) fun x87 =>
  bd1 (cpI h83 0 x85 (0 : Int32) x87 (0 : Int32) (3 : Int32)) fun h89 =>
  bd1 (gR h89 a1 4 17) fun x91 =>
  bd1 (gR h89 a0 4 17) fun x93 =>
  bd1 (cpI h89 0 x91 (0 : Int32) x93 (0 : Int32) (15 : Int32)) fun h95 =>
  bd1 (gR h95 a0 4 18) fun x97 =>
  bd1 (gR h95 a1 4 18) fun x99 =>
  bd1 (kC h95 x97 6) fun _ =>
  bd1 (f_Sightings_copyFrom x97 x99 h95) fun h103 =>
  some h103
set_option maxRecDepth 20000 in
theorem t_Realm_copyFrom_0 {sc : Nat × (Nat → Int32)}  (a0 : Nat) (a1 : Nat) (h : mH) (h' : mH) (hf : f_Realm_copyFrom_0  a0 a1 h = some h') : G sc y_Realm_copyFrom prog_5_method_3_code 2 none 2 61 0 [(0, .ref a0), (1, .ref a1)] [] h none h' := by
  unfold f_Realm_copyFrom_0 at hf
  refine g_aload_n (pc := 0) 0 dd_Realm_copyFrom_0.1 rfl rfl ?_
  refine g_aload_n (pc := 1) 1 dd_Realm_copyFrom_0.2.1 rfl rfl ?_
  obtain ⟨x1, e2, hf⟩ := bd1_e hf
  refine g_get (pc := 2) (ci := 4) (kk := 0) dd_Realm_copyFrom_0.2.2.1 rfl in_Realm (by decide) wd_93 (gI_spec e2) ?_
  obtain ⟨h3, e4, hf⟩ := bd1_e hf
  refine g_put (pc := 5) (ci := 4) (kk := 0) ty_Realm tyok_Realm nm_Realm dd_Realm_copyFrom_0.2.2.2.1 rfl in_Realm (by decide) wd_93 rfl (fun _ => rfl) (fun _ => rfl) (fun _ z => by cases z) e4 ?_
  refine g_aload_n (pc := 8) 0 dd_Realm_copyFrom_0.2.2.2.2.1 rfl rfl ?_
  refine g_aload_n (pc := 9) 1 dd_Realm_copyFrom_0.2.2.2.2.2.1 rfl rfl ?_
  obtain ⟨x5, e6, hf⟩ := bd1_e hf
  refine g_get (pc := 10) (ci := 4) (kk := 1) dd_Realm_copyFrom_0.2.2.2.2.2.2.1 rfl in_Realm (by decide) wd_98 (gI_spec e6) ?_
  obtain ⟨h7, e8, hf⟩ := bd1_e hf
  refine g_put (pc := 13) (ci := 4) (kk := 1) ty_Realm tyok_Realm nm_Realm dd_Realm_copyFrom_0.2.2.2.2.2.2.2.1 rfl in_Realm (by decide) wd_98 rfl (fun _ => rfl) (fun _ => rfl) (fun _ z => by cases z) e8 ?_
  refine g_aload_n (pc := 16) 0 dd_Realm_copyFrom_0.2.2.2.2.2.2.2.2.1 rfl rfl ?_
  refine g_aload_n (pc := 17) 1 dd_Realm_copyFrom_0.2.2.2.2.2.2.2.2.2.1 rfl rfl ?_
  obtain ⟨x9, e10, hf⟩ := bd1_e hf
  refine g_get (pc := 18) (ci := 4) (kk := 2) dd_Realm_copyFrom_0.2.2.2.2.2.2.2.2.2.2.1 rfl in_Realm (by decide) wd_103 (gI_spec e10) ?_
  obtain ⟨h11, e12, hf⟩ := bd1_e hf
  refine g_put (pc := 21) (ci := 4) (kk := 2) ty_Realm tyok_Realm nm_Realm dd_Realm_copyFrom_0.2.2.2.2.2.2.2.2.2.2.2.1 rfl in_Realm (by decide) wd_103 rfl (fun _ => rfl) (fun _ => rfl) (fun _ z => by cases z) e12 ?_
  refine g_aload_n (pc := 24) 0 dd_Realm_copyFrom_0.2.2.2.2.2.2.2.2.2.2.2.2.1 rfl rfl ?_
  refine g_aload_n (pc := 25) 1 dd_Realm_copyFrom_0.2.2.2.2.2.2.2.2.2.2.2.2.2.1 rfl rfl ?_
  obtain ⟨x13, e14, hf⟩ := bd1_e hf
  refine g_get (pc := 26) (ci := 4) (kk := 3) dd_Realm_copyFrom_0.2.2.2.2.2.2.2.2.2.2.2.2.2.2.1 rfl in_Realm (by decide) wd_105 (gI_spec e14) ?_
  obtain ⟨h15, e16, hf⟩ := bd1_e hf
  refine g_put (pc := 29) (ci := 4) (kk := 3) ty_Realm tyok_Realm nm_Realm dd_Realm_copyFrom_0.2.2.2.2.2.2.2.2.2.2.2.2.2.2.2.1 rfl in_Realm (by decide) wd_105 rfl (fun _ => rfl) (fun _ => rfl) (fun _ z => by cases z) e16 ?_
  refine g_aload_n (pc := 32) 0 dd_Realm_copyFrom_0.2.2.2.2.2.2.2.2.2.2.2.2.2.2.2.2.1 rfl rfl ?_
  refine g_aload_n (pc := 33) 1 dd_Realm_copyFrom_0.2.2.2.2.2.2.2.2.2.2.2.2.2.2.2.2.2.1 rfl rfl ?_
  obtain ⟨x17, e18, hf⟩ := bd1_e hf
  refine g_get (pc := 34) (ci := 4) (kk := 4) dd_Realm_copyFrom_0.2.2.2.2.2.2.2.2.2.2.2.2.2.2.2.2.2.2.1 rfl in_Realm (by decide) wd_107 (gI_spec e18) ?_
  obtain ⟨h19, e20, hf⟩ := bd1_e hf
  refine g_put (pc := 37) (ci := 4) (kk := 4) ty_Realm tyok_Realm nm_Realm dd_Realm_copyFrom_0.2.2.2.2.2.2.2.2.2.2.2.2.2.2.2.2.2.2.2.1 rfl in_Realm (by decide) wd_107 rfl (fun _ => rfl) (fun _ => rfl) (fun _ z => by cases z) e20 ?_
  refine g_aload_n (pc := 40) 0 dd_Realm_copyFrom_0.2.2.2.2.2.2.2.2.2.2.2.2.2.2.2.2.2.2.2.2.1 rfl rfl ?_
  refine g_aload_n (pc := 41) 1 dd_Realm_copyFrom_0.2.2.2.2.2.2.2.2.2.2.2.2.2.2.2.2.2.2.2.2.2.1 rfl rfl ?_
  obtain ⟨x21, e22, hf⟩ := bd1_e hf
  refine g_get (pc := 42) (ci := 4) (kk := 5) dd_Realm_copyFrom_0.2.2.2.2.2.2.2.2.2.2.2.2.2.2.2.2.2.2.2.2.2.2.1 rfl in_Realm (by decide) wd_110 (gI_spec e22) ?_
  obtain ⟨h23, e24, hf⟩ := bd1_e hf
  refine g_put (pc := 45) (ci := 4) (kk := 5) ty_Realm tyok_Realm nm_Realm dd_Realm_copyFrom_0.2.2.2.2.2.2.2.2.2.2.2.2.2.2.2.2.2.2.2.2.2.2.2 rfl in_Realm (by decide) wd_110 rfl (fun _ => rfl) (fun _ => rfl) (fun _ z => by cases z) e24 ?_
  refine g_aload_n (pc := 48) 1 dd_Realm_copyFrom_48.1 rfl rfl ?_
  obtain ⟨x25, e26, hf⟩ := bd1_e hf
  refine g_get (pc := 49) (ci := 4) (kk := 6) dd_Realm_copyFrom_48.2.1 rfl in_Realm (by decide) wd_113 (gR_spec e26) ?_
  refine g_iconst (pc := 52) (0 : Int32) dd_Realm_copyFrom_48.2.2.1 (by decide) ?_
  refine g_aload_n (pc := 53) 0 dd_Realm_copyFrom_48.2.2.2.1 rfl rfl ?_
  obtain ⟨x27, e28, hf⟩ := bd1_e hf
  refine g_get (pc := 54) (ci := 4) (kk := 6) dd_Realm_copyFrom_48.2.2.2.2.1 rfl in_Realm (by decide) wd_113 (gR_spec e28) ?_
  refine g_iconst (pc := 57) (0 : Int32) dd_Realm_copyFrom_48.2.2.2.2.2.1 (by decide) ?_
  refine g_iconst (pc := 58) (5 : Int32) dd_Realm_copyFrom_48.2.2.2.2.2.2.1 (by decide) ?_
  obtain ⟨h29, e30, hf⟩ := bd1_e hf
  refine g_copyi (pc := 59) dd_Realm_copyFrom_48.2.2.2.2.2.2.2.1 wd_499 wd_501 wd_500 wd_15 (by decide) (Nat.le_of_ble_eq_true rfl) e30 ?_
  refine g_aload_n (pc := 62) 1 dd_Realm_copyFrom_48.2.2.2.2.2.2.2.2.1 rfl rfl ?_
  obtain ⟨x31, e32, hf⟩ := bd1_e hf
  refine g_get (pc := 63) (ci := 4) (kk := 7) dd_Realm_copyFrom_48.2.2.2.2.2.2.2.2.2.1 rfl in_Realm (by decide) wd_116 (gR_spec e32) ?_
  refine g_iconst (pc := 66) (0 : Int32) dd_Realm_copyFrom_48.2.2.2.2.2.2.2.2.2.2.1 (by decide) ?_
  refine g_aload_n (pc := 67) 0 dd_Realm_copyFrom_48.2.2.2.2.2.2.2.2.2.2.2.1 rfl rfl ?_
  obtain ⟨x33, e34, hf⟩ := bd1_e hf
  refine g_get (pc := 68) (ci := 4) (kk := 7) dd_Realm_copyFrom_48.2.2.2.2.2.2.2.2.2.2.2.2.1 rfl in_Realm (by decide) wd_116 (gR_spec e34) ?_
  refine g_iconst (pc := 71) (0 : Int32) dd_Realm_copyFrom_48.2.2.2.2.2.2.2.2.2.2.2.2.2.1 (by decide) ?_
  refine g_iconst (pc := 72) (5 : Int32) dd_Realm_copyFrom_48.2.2.2.2.2.2.2.2.2.2.2.2.2.2.1 (by decide) ?_
  obtain ⟨h35, e36, hf⟩ := bd1_e hf
  refine g_copyi (pc := 73) dd_Realm_copyFrom_48.2.2.2.2.2.2.2.2.2.2.2.2.2.2.2.1 wd_499 wd_501 wd_500 wd_15 (by decide) (Nat.le_of_ble_eq_true rfl) e36 ?_
  refine g_aload_n (pc := 76) 1 dd_Realm_copyFrom_48.2.2.2.2.2.2.2.2.2.2.2.2.2.2.2.2.1 rfl rfl ?_
  obtain ⟨x37, e38, hf⟩ := bd1_e hf
  refine g_get (pc := 77) (ci := 4) (kk := 8) dd_Realm_copyFrom_48.2.2.2.2.2.2.2.2.2.2.2.2.2.2.2.2.2.1 rfl in_Realm (by decide) wd_120 (gR_spec e38) ?_
  refine g_iconst (pc := 80) (0 : Int32) dd_Realm_copyFrom_48.2.2.2.2.2.2.2.2.2.2.2.2.2.2.2.2.2.2.1 (by decide) ?_
  refine g_aload_n (pc := 81) 0 dd_Realm_copyFrom_48.2.2.2.2.2.2.2.2.2.2.2.2.2.2.2.2.2.2.2.1 rfl rfl ?_
  obtain ⟨x39, e40, hf⟩ := bd1_e hf
  refine g_get (pc := 82) (ci := 4) (kk := 8) dd_Realm_copyFrom_48.2.2.2.2.2.2.2.2.2.2.2.2.2.2.2.2.2.2.2.2.1 rfl in_Realm (by decide) wd_120 (gR_spec e40) ?_
  refine g_iconst (pc := 85) (0 : Int32) dd_Realm_copyFrom_48.2.2.2.2.2.2.2.2.2.2.2.2.2.2.2.2.2.2.2.2.2.1 (by decide) ?_
  refine g_iconst (pc := 86) (5 : Int32) dd_Realm_copyFrom_48.2.2.2.2.2.2.2.2.2.2.2.2.2.2.2.2.2.2.2.2.2.2.1 (by decide) ?_
  obtain ⟨h41, e42, hf⟩ := bd1_e hf
  refine g_copyi (pc := 87) dd_Realm_copyFrom_48.2.2.2.2.2.2.2.2.2.2.2.2.2.2.2.2.2.2.2.2.2.2.2 wd_499 wd_501 wd_500 wd_15 (by decide) (Nat.le_of_ble_eq_true rfl) e42 ?_
  refine g_aload_n (pc := 90) 1 dd_Realm_copyFrom_90.1 rfl rfl ?_
  obtain ⟨x43, e44, hf⟩ := bd1_e hf
  refine g_get (pc := 91) (ci := 4) (kk := 9) dd_Realm_copyFrom_90.2.1 rfl in_Realm (by decide) wd_124 (gR_spec e44) ?_
  refine g_iconst (pc := 94) (0 : Int32) dd_Realm_copyFrom_90.2.2.1 (by decide) ?_
  refine g_aload_n (pc := 95) 0 dd_Realm_copyFrom_90.2.2.2.1 rfl rfl ?_
  obtain ⟨x45, e46, hf⟩ := bd1_e hf
  refine g_get (pc := 96) (ci := 4) (kk := 9) dd_Realm_copyFrom_90.2.2.2.2.1 rfl in_Realm (by decide) wd_124 (gR_spec e46) ?_
  refine g_iconst (pc := 99) (0 : Int32) dd_Realm_copyFrom_90.2.2.2.2.2.1 (by decide) ?_
  refine g_iconst (pc := 100) (5 : Int32) dd_Realm_copyFrom_90.2.2.2.2.2.2.1 (by decide) ?_
  obtain ⟨h47, e48, hf⟩ := bd1_e hf
  refine g_copyi (pc := 101) dd_Realm_copyFrom_90.2.2.2.2.2.2.2.1 wd_499 wd_501 wd_500 wd_15 (by decide) (Nat.le_of_ble_eq_true rfl) e48 ?_
  refine g_aload_n (pc := 104) 1 dd_Realm_copyFrom_90.2.2.2.2.2.2.2.2.1 rfl rfl ?_
  obtain ⟨x49, e50, hf⟩ := bd1_e hf
  refine g_get (pc := 105) (ci := 4) (kk := 10) dd_Realm_copyFrom_90.2.2.2.2.2.2.2.2.2.1 rfl in_Realm (by decide) wd_127 (gR_spec e50) ?_
  refine g_iconst (pc := 108) (0 : Int32) dd_Realm_copyFrom_90.2.2.2.2.2.2.2.2.2.2.1 (by decide) ?_
  refine g_aload_n (pc := 109) 0 dd_Realm_copyFrom_90.2.2.2.2.2.2.2.2.2.2.2.1 rfl rfl ?_
  obtain ⟨x51, e52, hf⟩ := bd1_e hf
  refine g_get (pc := 110) (ci := 4) (kk := 10) dd_Realm_copyFrom_90.2.2.2.2.2.2.2.2.2.2.2.2.1 rfl in_Realm (by decide) wd_127 (gR_spec e52) ?_
  refine g_iconst (pc := 113) (0 : Int32) dd_Realm_copyFrom_90.2.2.2.2.2.2.2.2.2.2.2.2.2.1 (by decide) ?_
  refine g_iconst (pc := 114) (5 : Int32) dd_Realm_copyFrom_90.2.2.2.2.2.2.2.2.2.2.2.2.2.2.1 (by decide) ?_
  obtain ⟨h53, e54, hf⟩ := bd1_e hf
  refine g_copyi (pc := 115) dd_Realm_copyFrom_90.2.2.2.2.2.2.2.2.2.2.2.2.2.2.2.1 wd_499 wd_501 wd_500 wd_15 (by decide) (Nat.le_of_ble_eq_true rfl) e54 ?_
  refine g_aload_n (pc := 118) 1 dd_Realm_copyFrom_90.2.2.2.2.2.2.2.2.2.2.2.2.2.2.2.2.1 rfl rfl ?_
  obtain ⟨x55, e56, hf⟩ := bd1_e hf
  refine g_get (pc := 119) (ci := 4) (kk := 11) dd_Realm_copyFrom_90.2.2.2.2.2.2.2.2.2.2.2.2.2.2.2.2.2.1 rfl in_Realm (by decide) wd_130 (gR_spec e56) ?_
  refine g_iconst (pc := 122) (0 : Int32) dd_Realm_copyFrom_90.2.2.2.2.2.2.2.2.2.2.2.2.2.2.2.2.2.2.1 (by decide) ?_
  refine g_aload_n (pc := 123) 0 dd_Realm_copyFrom_90.2.2.2.2.2.2.2.2.2.2.2.2.2.2.2.2.2.2.2.1 rfl rfl ?_
  obtain ⟨x57, e58, hf⟩ := bd1_e hf
  refine g_get (pc := 124) (ci := 4) (kk := 11) dd_Realm_copyFrom_90.2.2.2.2.2.2.2.2.2.2.2.2.2.2.2.2.2.2.2.2.1 rfl in_Realm (by decide) wd_130 (gR_spec e58) ?_
  refine g_iconst (pc := 127) (0 : Int32) dd_Realm_copyFrom_90.2.2.2.2.2.2.2.2.2.2.2.2.2.2.2.2.2.2.2.2.2.1 (by decide) ?_
  refine g_iconst (pc := 128) (3 : Int32) dd_Realm_copyFrom_90.2.2.2.2.2.2.2.2.2.2.2.2.2.2.2.2.2.2.2.2.2.2.1 (by decide) ?_
  obtain ⟨h59, e60, hf⟩ := bd1_e hf
  refine g_copyi (pc := 129) dd_Realm_copyFrom_90.2.2.2.2.2.2.2.2.2.2.2.2.2.2.2.2.2.2.2.2.2.2.2 wd_499 wd_501 wd_500 wd_15 (by decide) (Nat.le_of_ble_eq_true rfl) e60 ?_
  refine g_aload_n (pc := 132) 1 dd_Realm_copyFrom_132.1 rfl rfl ?_
  obtain ⟨x61, e62, hf⟩ := bd1_e hf
  refine g_get (pc := 133) (ci := 4) (kk := 12) dd_Realm_copyFrom_132.2.1 rfl in_Realm (by decide) wd_134 (gR_spec e62) ?_
  refine g_iconst (pc := 136) (0 : Int32) dd_Realm_copyFrom_132.2.2.1 (by decide) ?_
  refine g_aload_n (pc := 137) 0 dd_Realm_copyFrom_132.2.2.2.1 rfl rfl ?_
  obtain ⟨x63, e64, hf⟩ := bd1_e hf
  refine g_get (pc := 138) (ci := 4) (kk := 12) dd_Realm_copyFrom_132.2.2.2.2.1 rfl in_Realm (by decide) wd_134 (gR_spec e64) ?_
  refine g_iconst (pc := 141) (0 : Int32) dd_Realm_copyFrom_132.2.2.2.2.2.1 (by decide) ?_
  refine g_iconst (pc := 142) (3 : Int32) dd_Realm_copyFrom_132.2.2.2.2.2.2.1 (by decide) ?_
  obtain ⟨h65, e66, hf⟩ := bd1_e hf
  refine g_copyi (pc := 143) dd_Realm_copyFrom_132.2.2.2.2.2.2.2.1 wd_499 wd_501 wd_500 wd_15 (by decide) (Nat.le_of_ble_eq_true rfl) e66 ?_
  refine g_aload_n (pc := 146) 1 dd_Realm_copyFrom_132.2.2.2.2.2.2.2.2.1 rfl rfl ?_
  obtain ⟨x67, e68, hf⟩ := bd1_e hf
  refine g_get (pc := 147) (ci := 4) (kk := 13) dd_Realm_copyFrom_132.2.2.2.2.2.2.2.2.2.1 rfl in_Realm (by decide) wd_138 (gR_spec e68) ?_
  refine g_iconst (pc := 150) (0 : Int32) dd_Realm_copyFrom_132.2.2.2.2.2.2.2.2.2.2.1 (by decide) ?_
  refine g_aload_n (pc := 151) 0 dd_Realm_copyFrom_132.2.2.2.2.2.2.2.2.2.2.2.1 rfl rfl ?_
  obtain ⟨x69, e70, hf⟩ := bd1_e hf
  refine g_get (pc := 152) (ci := 4) (kk := 13) dd_Realm_copyFrom_132.2.2.2.2.2.2.2.2.2.2.2.2.1 rfl in_Realm (by decide) wd_138 (gR_spec e70) ?_
  refine g_iconst (pc := 155) (0 : Int32) dd_Realm_copyFrom_132.2.2.2.2.2.2.2.2.2.2.2.2.2.1 (by decide) ?_
  refine g_iconst (pc := 156) (3 : Int32) dd_Realm_copyFrom_132.2.2.2.2.2.2.2.2.2.2.2.2.2.2.1 (by decide) ?_
  obtain ⟨h71, e72, hf⟩ := bd1_e hf
  refine g_copyi (pc := 157) dd_Realm_copyFrom_132.2.2.2.2.2.2.2.2.2.2.2.2.2.2.2.1 wd_499 wd_501 wd_500 wd_15 (by decide) (Nat.le_of_ble_eq_true rfl) e72 ?_
  refine g_aload_n (pc := 160) 1 dd_Realm_copyFrom_132.2.2.2.2.2.2.2.2.2.2.2.2.2.2.2.2.1 rfl rfl ?_
  obtain ⟨x73, e74, hf⟩ := bd1_e hf
  refine g_get (pc := 161) (ci := 4) (kk := 14) dd_Realm_copyFrom_132.2.2.2.2.2.2.2.2.2.2.2.2.2.2.2.2.2.1 rfl in_Realm (by decide) wd_142 (gR_spec e74) ?_
  refine g_iconst (pc := 164) (0 : Int32) dd_Realm_copyFrom_132.2.2.2.2.2.2.2.2.2.2.2.2.2.2.2.2.2.2.1 (by decide) ?_
  refine g_aload_n (pc := 165) 0 dd_Realm_copyFrom_132.2.2.2.2.2.2.2.2.2.2.2.2.2.2.2.2.2.2.2.1 rfl rfl ?_
  obtain ⟨x75, e76, hf⟩ := bd1_e hf
  refine g_get (pc := 166) (ci := 4) (kk := 14) dd_Realm_copyFrom_132.2.2.2.2.2.2.2.2.2.2.2.2.2.2.2.2.2.2.2.2.1 rfl in_Realm (by decide) wd_142 (gR_spec e76) ?_
  refine g_iconst (pc := 169) (0 : Int32) dd_Realm_copyFrom_132.2.2.2.2.2.2.2.2.2.2.2.2.2.2.2.2.2.2.2.2.2.1 (by decide) ?_
  refine g_iconst (pc := 170) (3 : Int32) dd_Realm_copyFrom_132.2.2.2.2.2.2.2.2.2.2.2.2.2.2.2.2.2.2.2.2.2.2.1 (by decide) ?_
  obtain ⟨h77, e78, hf⟩ := bd1_e hf
  refine g_copyi (pc := 171) dd_Realm_copyFrom_132.2.2.2.2.2.2.2.2.2.2.2.2.2.2.2.2.2.2.2.2.2.2.2 wd_499 wd_501 wd_500 wd_15 (by decide) (Nat.le_of_ble_eq_true rfl) e78 ?_
  refine g_aload_n (pc := 174) 1 dd_Realm_copyFrom_174.1 rfl rfl ?_
  obtain ⟨x79, e80, hf⟩ := bd1_e hf
  refine g_get (pc := 175) (ci := 4) (kk := 15) dd_Realm_copyFrom_174.2.1 rfl in_Realm (by decide) wd_145 (gR_spec e80) ?_
  refine g_iconst (pc := 178) (0 : Int32) dd_Realm_copyFrom_174.2.2.1 (by decide) ?_
  refine g_aload_n (pc := 179) 0 dd_Realm_copyFrom_174.2.2.2.1 rfl rfl ?_
  obtain ⟨x81, e82, hf⟩ := bd1_e hf
  refine g_get (pc := 180) (ci := 4) (kk := 15) dd_Realm_copyFrom_174.2.2.2.2.1 rfl in_Realm (by decide) wd_145 (gR_spec e82) ?_
  refine g_iconst (pc := 183) (0 : Int32) dd_Realm_copyFrom_174.2.2.2.2.2.1 (by decide) ?_
  refine g_iconst (pc := 184) (3 : Int32) dd_Realm_copyFrom_174.2.2.2.2.2.2.1 (by decide) ?_
  obtain ⟨h83, e84, hf⟩ := bd1_e hf
  refine g_copyi (pc := 185) dd_Realm_copyFrom_174.2.2.2.2.2.2.2.1 wd_499 wd_501 wd_500 wd_15 (by decide) (Nat.le_of_ble_eq_true rfl) e84 ?_
  refine g_aload_n (pc := 188) 1 dd_Realm_copyFrom_174.2.2.2.2.2.2.2.2.1 rfl rfl ?_
  obtain ⟨x85, e86, hf⟩ := bd1_e hf
  refine g_get (pc := 189) (ci := 4) (kk := 16) dd_Realm_copyFrom_174.2.2.2.2.2.2.2.2.2.1 rfl in_Realm (by decide) wd_149 (gR_spec e86) ?_
  refine g_iconst (pc := 192) (0 : Int32) dd_Realm_copyFrom_174.2.2.2.2.2.2.2.2.2.2.1 (by decide) ?_
  refine g_aload_n (pc := 193) 0 dd_Realm_copyFrom_174.2.2.2.2.2.2.2.2.2.2.2.1 rfl rfl ?_
  obtain ⟨x87, e88, hf⟩ := bd1_e hf
  refine g_get (pc := 194) (ci := 4) (kk := 16) dd_Realm_copyFrom_174.2.2.2.2.2.2.2.2.2.2.2.2.1 rfl in_Realm (by decide) wd_149 (gR_spec e88) ?_
  refine g_iconst (pc := 197) (0 : Int32) dd_Realm_copyFrom_174.2.2.2.2.2.2.2.2.2.2.2.2.2.1 (by decide) ?_
  refine g_iconst (pc := 198) (3 : Int32) dd_Realm_copyFrom_174.2.2.2.2.2.2.2.2.2.2.2.2.2.2.1 (by decide) ?_
  obtain ⟨h89, e90, hf⟩ := bd1_e hf
  refine g_copyi (pc := 199) dd_Realm_copyFrom_174.2.2.2.2.2.2.2.2.2.2.2.2.2.2.2.1 wd_499 wd_501 wd_500 wd_15 (by decide) (Nat.le_of_ble_eq_true rfl) e90 ?_
  refine g_aload_n (pc := 202) 1 dd_Realm_copyFrom_174.2.2.2.2.2.2.2.2.2.2.2.2.2.2.2.2.1 rfl rfl ?_
  obtain ⟨x91, e92, hf⟩ := bd1_e hf
  refine g_get (pc := 203) (ci := 4) (kk := 17) dd_Realm_copyFrom_174.2.2.2.2.2.2.2.2.2.2.2.2.2.2.2.2.2.1 rfl in_Realm (by decide) wd_152 (gR_spec e92) ?_
  refine g_iconst (pc := 206) (0 : Int32) dd_Realm_copyFrom_174.2.2.2.2.2.2.2.2.2.2.2.2.2.2.2.2.2.2.1 (by decide) ?_
  refine g_aload_n (pc := 207) 0 dd_Realm_copyFrom_174.2.2.2.2.2.2.2.2.2.2.2.2.2.2.2.2.2.2.2.1 rfl rfl ?_
  obtain ⟨x93, e94, hf⟩ := bd1_e hf
  refine g_get (pc := 208) (ci := 4) (kk := 17) dd_Realm_copyFrom_174.2.2.2.2.2.2.2.2.2.2.2.2.2.2.2.2.2.2.2.2.1 rfl in_Realm (by decide) wd_152 (gR_spec e94) ?_
  refine g_iconst (pc := 211) (0 : Int32) dd_Realm_copyFrom_174.2.2.2.2.2.2.2.2.2.2.2.2.2.2.2.2.2.2.2.2.2.1 (by decide) ?_
  refine g_bipush (pc := 212) (15 : Int32) dd_Realm_copyFrom_174.2.2.2.2.2.2.2.2.2.2.2.2.2.2.2.2.2.2.2.2.2.2.1 (by decide) ?_
  obtain ⟨h95, e96, hf⟩ := bd1_e hf
  refine g_copyi (pc := 214) dd_Realm_copyFrom_174.2.2.2.2.2.2.2.2.2.2.2.2.2.2.2.2.2.2.2.2.2.2.2 wd_499 wd_501 wd_500 wd_15 (by decide) (Nat.le_of_ble_eq_true rfl) e96 ?_
  refine g_aload_n (pc := 217) 0 dd_Realm_copyFrom_217.1 rfl rfl ?_
  obtain ⟨x97, e98, hf⟩ := bd1_e hf
  refine g_get (pc := 218) (ci := 4) (kk := 18) dd_Realm_copyFrom_217.2.1 rfl in_Realm (by decide) wd_153 (gR_spec e98) ?_
  refine g_aload_n (pc := 221) 1 dd_Realm_copyFrom_217.2.2.1 rfl rfl ?_
  obtain ⟨x99, e100, hf⟩ := bd1_e hf
  refine g_get (pc := 222) (ci := 4) (kk := 18) dd_Realm_copyFrom_217.2.2.2.1 rfl in_Realm (by decide) wd_153 (gR_spec e100) ?_
  obtain ⟨u102, e101, hf⟩ := bd1_e hf
  obtain ⟨h103, e104, hf⟩ := bd1_e hf
  refine g_callV (pc := 225) (ci := 6) [.ref x99] (site_of si_Sightings_copyFrom (by decide) (by decide)) wd_502 wd_503 wd_504 dd_Realm_copyFrom_217.2.2.2.2.1 rfl e101 (Nat.le_of_ble_eq_true rfl) (fun z => absurd z si_na_Sightings_copyFrom) (fun z => absurd z si_na_Sightings_copyFrom) (fun z => absurd z si_na_Sightings_copyFrom) (c_Sightings_copyFrom e104) rfl ?_
  refine g_st [] rfl ?_
  obtain rfl := ret1 hf
  exact g_vret (pc := 228) rfl dd_Realm_copyFrom_217.2.2.2.2.2
def f_Realm_copyFrom (a0 : Nat) (a1 : Nat) (h : mH) : Option mH := f_Realm_copyFrom_0 a0 a1 h
theorem c_Realm_copyFrom {sc : Nat × (Nat → Int32)} {a0 : Nat} {a1 : Nat} {h : mH} {h' : mH} (hf : f_Realm_copyFrom a0 a1 h = some h') : MM sc y_Realm_copyFrom prog_5_method_3_code 2 none 2 61 [.ref a0, .ref a1] h none h' :=
  mm_of_G si_pn_Realm (Nat.le_of_ble_eq_true rfl) (t_Realm_copyFrom_0 _ _ _ _ hf)
/-! Q text ()I -/
set_option maxRecDepth 100000 in
theorem dd_Q_text_0 : (decode prog_1_method_4_code 0 = .ok (.aload_n 0, 1)) ∧ (decode prog_1_method_4_code 1 = .ok (.getfield 10, 3)) ∧ (decode prog_1_method_4_code 4 = .ok (.aload_n 0, 1)) ∧ (decode prog_1_method_4_code 5 = .ok (.getfield 23, 3)) ∧ (decode prog_1_method_4_code 8 = .ok (.invokevirtual 74, 3)) ∧ (decode prog_1_method_4_code 11 = .ok (.istore_n 1, 1)) ∧ (decode prog_1_method_4_code 12 = .ok (.aload_n 0, 1)) ∧ (decode prog_1_method_4_code 13 = .ok (.getfield 10, 3)) ∧ (decode prog_1_method_4_code 16 = .ok (.iconst 0, 1)) ∧ (decode prog_1_method_4_code 17 = .ok (.putfield 70, 3)) ∧ (decode prog_1_method_4_code 20 = .ok (.iload_n 1, 1)) ∧ (decode prog_1_method_4_code 21 = .ok (.ifCond .ne 14, 3)) ∧ (decode prog_1_method_4_code 24 = .ok (.bipush (-10), 2)) ∧ (decode prog_1_method_4_code 26 = .ok (.aload_n 0, 1)) ∧ (decode prog_1_method_4_code 27 = .ok (.getfield 10, 3)) ∧ (decode prog_1_method_4_code 30 = .ok (.getfield 78, 3)) ∧ (decode prog_1_method_4_code 33 = .ok (.isub, 1)) ∧ (decode prog_1_method_4_code 34 = .ok (.ireturn, 1)) ∧ (decode prog_1_method_4_code 35 = .ok (.aload_n 0, 1)) ∧ (decode prog_1_method_4_code 36 = .ok (.getfield 19, 3)) ∧ (decode prog_1_method_4_code 39 = .ok (.aload_n 0, 1)) ∧ (decode prog_1_method_4_code 40 = .ok (.getfield 23, 3)) ∧ (decode prog_1_method_4_code 43 = .ok (.invokevirtual 81, 3)) ∧ (decode prog_1_method_4_code 46 = .ok (.iconst 0, 1)) := by
  have h : List.drop 0 prog_1_method_4_code.data.toList = 0x2a :: _ := rfl
  refine ⟨zq_k_n 42 h rfl (zq_o_42 _), ?_⟩
  replace h := zq_nx1 (q := 1) h rfl
  refine ⟨zq_k_u2 180 (fun z => .getfield z) 10 h rfl (zq_o_180 _) (by decide +kernel), ?_⟩
  replace h := zq_nx3 (q := 4) h rfl
  refine ⟨zq_k_n 42 h rfl (zq_o_42 _), ?_⟩
  replace h := zq_nx1 (q := 5) h rfl
  refine ⟨zq_k_u2 180 (fun z => .getfield z) 23 h rfl (zq_o_180 _) (by decide +kernel), ?_⟩
  replace h := zq_nx3 (q := 8) h rfl
  refine ⟨zq_k_u2 182 (fun z => .invokevirtual z) 74 h rfl (zq_o_182 _) (by decide +kernel), ?_⟩
  replace h := zq_nx3 (q := 11) h rfl
  refine ⟨zq_k_n 60 h rfl (zq_o_60 _), ?_⟩
  replace h := zq_nx1 (q := 12) h rfl
  refine ⟨zq_k_n 42 h rfl (zq_o_42 _), ?_⟩
  replace h := zq_nx1 (q := 13) h rfl
  refine ⟨zq_k_u2 180 (fun z => .getfield z) 10 h rfl (zq_o_180 _) (by decide +kernel), ?_⟩
  replace h := zq_nx3 (q := 16) h rfl
  refine ⟨zq_k_n 3 h rfl (zq_o_3 _), ?_⟩
  replace h := zq_nx1 (q := 17) h rfl
  refine ⟨zq_k_u2 181 (fun z => .putfield z) 70 h rfl (zq_o_181 _) (by decide +kernel), ?_⟩
  replace h := zq_nx3 (q := 20) h rfl
  refine ⟨zq_k_n 27 h rfl (zq_o_27 _), ?_⟩
  replace h := zq_nx1 (q := 21) h rfl
  refine ⟨zq_k_s2 154 (fun z => .ifCond .ne z) 14 h rfl (zq_o_154 _) (by decide +kernel), ?_⟩
  replace h := zq_nx3 (q := 24) h rfl
  refine ⟨zq_k_s1 16 (fun z => .bipush z) (-10) h rfl (zq_o_16 _) (by decide +kernel), ?_⟩
  replace h := zq_nx2 (q := 26) h rfl
  refine ⟨zq_k_n 42 h rfl (zq_o_42 _), ?_⟩
  replace h := zq_nx1 (q := 27) h rfl
  refine ⟨zq_k_u2 180 (fun z => .getfield z) 10 h rfl (zq_o_180 _) (by decide +kernel), ?_⟩
  replace h := zq_nx3 (q := 30) h rfl
  refine ⟨zq_k_u2 180 (fun z => .getfield z) 78 h rfl (zq_o_180 _) (by decide +kernel), ?_⟩
  replace h := zq_nx3 (q := 33) h rfl
  refine ⟨zq_k_n 100 h rfl (zq_o_100 _), ?_⟩
  replace h := zq_nx1 (q := 34) h rfl
  refine ⟨zq_k_n 172 h rfl (zq_o_172 _), ?_⟩
  replace h := zq_nx1 (q := 35) h rfl
  refine ⟨zq_k_n 42 h rfl (zq_o_42 _), ?_⟩
  replace h := zq_nx1 (q := 36) h rfl
  refine ⟨zq_k_u2 180 (fun z => .getfield z) 19 h rfl (zq_o_180 _) (by decide +kernel), ?_⟩
  replace h := zq_nx3 (q := 39) h rfl
  refine ⟨zq_k_n 42 h rfl (zq_o_42 _), ?_⟩
  replace h := zq_nx1 (q := 40) h rfl
  refine ⟨zq_k_u2 180 (fun z => .getfield z) 23 h rfl (zq_o_180 _) (by decide +kernel), ?_⟩
  replace h := zq_nx3 (q := 43) h rfl
  refine ⟨zq_k_u2 182 (fun z => .invokevirtual z) 81 h rfl (zq_o_182 _) (by decide +kernel), ?_⟩
  replace h := zq_nx3 (q := 46) h rfl
  exact zq_k_n 3 h rfl (zq_o_3 _)
set_option maxRecDepth 100000 in
theorem dd_Q_text_47 : (decode prog_1_method_4_code 47 = .ok (.istore_n 2, 1)) ∧ (decode prog_1_method_4_code 48 = .ok (.iload_n 2, 1)) ∧ (decode prog_1_method_4_code 49 = .ok (.iconst 2, 1)) ∧ (decode prog_1_method_4_code 50 = .ok (.if_icmp .ge 16, 3)) ∧ (decode prog_1_method_4_code 53 = .ok (.aload_n 0, 1)) ∧ (decode prog_1_method_4_code 54 = .ok (.getfield 30, 3)) ∧ (decode prog_1_method_4_code 57 = .ok (.iload_n 2, 1)) ∧ (decode prog_1_method_4_code 58 = .ok (.iconst 0, 1)) ∧ (decode prog_1_method_4_code 59 = .ok (.bastore, 1)) ∧ (decode prog_1_method_4_code 60 = .ok (.iinc 2 1, 3)) ∧ (decode prog_1_method_4_code 63 = .ok (.goto (-15), 3)) ∧ (decode prog_1_method_4_code 66 = .ok (.aload_n 0, 1)) ∧ (decode prog_1_method_4_code 67 = .ok (.getfield 10, 3)) ∧ (decode prog_1_method_4_code 70 = .ok (.getfield 85, 3)) ∧ (decode prog_1_method_4_code 73 = .ok (.ireturn, 1)) := by
  have h : List.drop 47 prog_1_method_4_code.data.toList = 0x3d :: _ := rfl
  refine ⟨zq_k_n 61 h rfl (zq_o_61 _), ?_⟩
  replace h := zq_nx1 (q := 48) h rfl
  refine ⟨zq_k_n 28 h rfl (zq_o_28 _), ?_⟩
  replace h := zq_nx1 (q := 49) h rfl
  refine ⟨zq_k_n 5 h rfl (zq_o_5 _), ?_⟩
  replace h := zq_nx1 (q := 50) h rfl
  refine ⟨zq_k_s2 162 (fun z => .if_icmp .ge z) 16 h rfl (zq_o_162 _) (by decide +kernel), ?_⟩
  replace h := zq_nx3 (q := 53) h rfl
  refine ⟨zq_k_n 42 h rfl (zq_o_42 _), ?_⟩
  replace h := zq_nx1 (q := 54) h rfl
  refine ⟨zq_k_u2 180 (fun z => .getfield z) 30 h rfl (zq_o_180 _) (by decide +kernel), ?_⟩
  replace h := zq_nx3 (q := 57) h rfl
  refine ⟨zq_k_n 28 h rfl (zq_o_28 _), ?_⟩
  replace h := zq_nx1 (q := 58) h rfl
  refine ⟨zq_k_n 3 h rfl (zq_o_3 _), ?_⟩
  replace h := zq_nx1 (q := 59) h rfl
  refine ⟨zq_k_n 84 h rfl (zq_o_84 _), ?_⟩
  replace h := zq_nx1 (q := 60) h rfl
  refine ⟨zq_k_iinc 2 1 h rfl (zq_o_132 _) (by decide +kernel) (by decide +kernel), ?_⟩
  replace h := zq_nx3 (q := 63) h rfl
  refine ⟨zq_k_s2 167 (fun z => .goto z) (-15) h rfl (zq_o_167 _) (by decide +kernel), ?_⟩
  replace h := zq_nx3 (q := 66) h rfl
  refine ⟨zq_k_n 42 h rfl (zq_o_42 _), ?_⟩
  replace h := zq_nx1 (q := 67) h rfl
  refine ⟨zq_k_u2 180 (fun z => .getfield z) 10 h rfl (zq_o_180 _) (by decide +kernel), ?_⟩
  replace h := zq_nx3 (q := 70) h rfl
  refine ⟨zq_k_u2 180 (fun z => .getfield z) 85 h rfl (zq_o_180 _) (by decide +kernel), ?_⟩
  replace h := zq_nx3 (q := 73) h rfl
  exact zq_k_n 172 h rfl (zq_o_172 _)
def f_Q_text_48b (rec48 : Nat → Int32 → mH → Option (Int32 × mH)) (b0 : Nat) (b2 : Int32) (h : mH) : Option (Int32 × mH) :=
  if (2 : Int32) ≤ b2 then
    bd1 (gR h b0 0 0) fun x27 =>
    bd1 (gI h x27 3 4) fun x29 =>
    some (x29, h)
  else
    bd1 (gR h b0 0 4) fun x31 =>
    bd1 (sI h 2 x31 b2 (vp_nar .boolean (0 : Int32))) fun h33 =>
    rec48 b0 (b2 + (1 : Int32)) h33
set_option maxRecDepth 20000 in
theorem t_Q_text_48b {sc : Nat × (Nat → Int32)} (rec48 : Nat → Int32 → mH → Option (Int32 × mH)) (hrec48 : ∀ (b0 : Nat) (b2 : Int32) (h : mH) (r : Int32) (h' : mH), rec48 b0 b2 h = some (r, h') → G sc y_Q_text prog_1_method_4_code 3 (some .int) 7 151 48 [(0, .ref b0), (2, .int b2)] [] h (some (.int r)) h') (b0 : Nat) (b2 : Int32) (h : mH) (r : Int32) (h' : mH) (hf : f_Q_text_48b rec48 b0 b2 h = some (r, h')) : G sc y_Q_text prog_1_method_4_code 3 (some .int) 7 151 48 [(0, .ref b0), (2, .int b2)] [] h (some (.int r)) h' := by
  unfold f_Q_text_48b at hf
  refine g_iload_n (pc := 48) 1 dd_Q_text_47.2.1 rfl rfl ?_
  refine g_iconst (pc := 49) (2 : Int32) dd_Q_text_47.2.2.1 (by decide) ?_
  refine g_icmpge (pc := 50) 66 dd_Q_text_47.2.2.2.1 (by decide) (fun c35 => ?_) (fun c35 => ?_)
  · replace hf := (if_pos c35).symm.trans hf
    refine g_aload_n (pc := 66) 0 dd_Q_text_47.2.2.2.2.2.2.2.2.2.2.2.1 rfl rfl ?_
    obtain ⟨x27, e28, hf⟩ := bd1_e hf
    refine g_get (pc := 67) (ci := 0) (kk := 0) dd_Q_text_47.2.2.2.2.2.2.2.2.2.2.2.2.1 rfl in_Q (by decide) wd_296 (gR_spec e28) ?_
    obtain ⟨x29, e30, hf⟩ := bd1_e hf
    refine g_get (pc := 70) (ci := 3) (kk := 4) dd_Q_text_47.2.2.2.2.2.2.2.2.2.2.2.2.2.1 rfl in_Reader (by decide) wd_40 (gI_spec e30) ?_
    obtain ⟨rfl, rfl⟩ := ret2 hf
    exact g_iret (pc := 73) rfl dd_Q_text_47.2.2.2.2.2.2.2.2.2.2.2.2.2.2
  · replace hf := (if_neg c35).symm.trans hf
    refine g_aload_n (pc := 53) 0 dd_Q_text_47.2.2.2.2.1 rfl rfl ?_
    obtain ⟨x31, e32, hf⟩ := bd1_e hf
    refine g_get (pc := 54) (ci := 0) (kk := 4) dd_Q_text_47.2.2.2.2.2.1 rfl in_Q (by decide) wd_300 (gR_spec e32) ?_
    refine g_iload_n (pc := 57) 1 dd_Q_text_47.2.2.2.2.2.2.1 rfl rfl ?_
    refine g_iconst (pc := 58) (0 : Int32) dd_Q_text_47.2.2.2.2.2.2.2.1 (by decide) ?_
    obtain ⟨h33, e34, hf⟩ := bd1_e hf
    refine g_zast (pc := 59) dd_Q_text_47.2.2.2.2.2.2.2.2.1 e34 ?_
    refine g_iinc (pc := 60) 1 (b2 + (1 : Int32)) [(2, .int (b2 + (1 : Int32))), (0, .ref b0)] dd_Q_text_47.2.2.2.2.2.2.2.2.2.1 rfl rfl (Nat.le_of_ble_eq_true rfl) rfl ?_
    refine g_goto (pc := 63) 48 dd_Q_text_47.2.2.2.2.2.2.2.2.2.2.1 (by decide) ?_
    refine g_lv [1, 0] rfl ?_
    exact hrec48 _ _ _ _ _  hf
def f_Q_text_48  : Nat → Nat → Int32 → mH → Option (Int32 × mH)
  | 0 => fun _ _ _ => none
  | n + 1 => f_Q_text_48b  (f_Q_text_48  n)
theorem t_Q_text_48 {sc : Nat × (Nat → Int32)}  : ∀ (n : Nat) (b0 : Nat) (b2 : Int32) (h : mH) (r : Int32) (h' : mH) (hf : f_Q_text_48  n b0 b2 h = some (r, h')), G sc y_Q_text prog_1_method_4_code 3 (some .int) 7 151 48 [(0, .ref b0), (2, .int b2)] [] h (some (.int r)) h'
  | 0, _, _, _, _, _, hf => by cases hf
  | n + 1, _, _, _, _, _, hf => t_Q_text_48b  (f_Q_text_48  n) (t_Q_text_48  n) _ _ _ _ _ hf
def f_Q_text_0  (a0 : Nat) (h : mH) : Option (Int32 × mH) :=
  bd1 (gR h a0 0 0) fun x1 =>
  bd1 (gR h a0 0 2) fun x3 =>
  bd1 (kC h x1 3) fun _ =>
  bd2 (f_Reader_readInto x1 x3 h) fun x9 h7 =>
  bd1 (gR h7 a0 0 0) fun x10 =>
  bd1 (pV h7 x10 3 1 (.int (0 : Int32))) fun h12 =>
  if x9 = 0 then
    bd1 (gR h12 a0 0 0) fun x22 =>
    bd1 (gI h12 x22 3 3) fun x24 =>
    some (((-10) : Int32) - x24, h12)
  else
    bd1 (gR h12 a0 0 1) fun x14 =>
    bd1 (gR h12 a0 0 2) fun x16 =>
    bd1 (kC h12 x14 4) fun _ =>
    bd1 (f_Realm_copyFrom x14 x16 h12) fun h20 =>
    f_Q_text_48  FU a0 (0 : Int32) h20
set_option maxRecDepth 20000 in
theorem t_Q_text_0 {sc : Nat × (Nat → Int32)}  (a0 : Nat) (h : mH) (r : Int32) (h' : mH) (hf : f_Q_text_0  a0 h = some (r, h')) : G sc y_Q_text prog_1_method_4_code 3 (some .int) 7 151 0 [(0, .ref a0)] [] h (some (.int r)) h' := by
  unfold f_Q_text_0 at hf
  refine g_aload_n (pc := 0) 0 dd_Q_text_0.1 rfl rfl ?_
  obtain ⟨x1, e2, hf⟩ := bd1_e hf
  refine g_get (pc := 1) (ci := 0) (kk := 0) dd_Q_text_0.2.1 rfl in_Q (by decide) wd_296 (gR_spec e2) ?_
  refine g_aload_n (pc := 4) 0 dd_Q_text_0.2.2.1 rfl rfl ?_
  obtain ⟨x3, e4, hf⟩ := bd1_e hf
  refine g_get (pc := 5) (ci := 0) (kk := 2) dd_Q_text_0.2.2.2.1 rfl in_Q (by decide) wd_298 (gR_spec e4) ?_
  obtain ⟨u6, e5, hf⟩ := bd1_e hf
  obtain ⟨x9, h7, e8, hf⟩ := bd2_e hf
  refine g_callV (pc := 8) (ci := 3) [.ref x3] (site_of si_Reader_readInto (by decide) (by decide)) wd_346 wd_347 wd_348 dd_Q_text_0.2.2.2.2.1 rfl e5 (Nat.le_of_ble_eq_true rfl) (fun z => absurd z si_na_Reader_readInto) (fun z => absurd z si_na_Reader_readInto) (fun z => absurd z si_na_Reader_readInto) (c_Reader_readInto e8) rfl ?_
  refine g_st [.int x9] rfl ?_
  refine g_istore_n (pc := 11) [(1, .int x9), (0, .ref a0)] dd_Q_text_0.2.2.2.2.2.1 rfl (Nat.le_of_ble_eq_true rfl) rfl ?_
  refine g_aload_n (pc := 12) 1 dd_Q_text_0.2.2.2.2.2.2.1 rfl rfl ?_
  obtain ⟨x10, e11, hf⟩ := bd1_e hf
  refine g_get (pc := 13) (ci := 0) (kk := 0) dd_Q_text_0.2.2.2.2.2.2.2.1 rfl in_Q (by decide) wd_296 (gR_spec e11) ?_
  refine g_iconst (pc := 16) (0 : Int32) dd_Q_text_0.2.2.2.2.2.2.2.2.1 (by decide) ?_
  obtain ⟨h12, e13, hf⟩ := bd1_e hf
  refine g_put (pc := 17) (ci := 3) (kk := 1) ty_Reader tyok_Reader nm_Reader dd_Q_text_0.2.2.2.2.2.2.2.2.2.1 rfl in_Reader (by decide) wd_34 rfl (fun _ => rfl) (fun _ => rfl) (fun _ z => by cases z) e13 ?_
  refine g_iload_n (pc := 20) 0 dd_Q_text_0.2.2.2.2.2.2.2.2.2.2.1 rfl rfl ?_
  refine g_ifne (pc := 21) 35 dd_Q_text_0.2.2.2.2.2.2.2.2.2.2.2.1 (by decide) (fun c26 => ?_) (fun c26 => ?_)
  · replace hf := (if_neg c26).symm.trans hf
    refine g_aload_n (pc := 35) 1 dd_Q_text_0.2.2.2.2.2.2.2.2.2.2.2.2.2.2.2.2.2.2.1 rfl rfl ?_
    obtain ⟨x14, e15, hf⟩ := bd1_e hf
    refine g_get (pc := 36) (ci := 0) (kk := 1) dd_Q_text_0.2.2.2.2.2.2.2.2.2.2.2.2.2.2.2.2.2.2.2.1 rfl in_Q (by decide) wd_297 (gR_spec e15) ?_
    refine g_aload_n (pc := 39) 1 dd_Q_text_0.2.2.2.2.2.2.2.2.2.2.2.2.2.2.2.2.2.2.2.2.1 rfl rfl ?_
    obtain ⟨x16, e17, hf⟩ := bd1_e hf
    refine g_get (pc := 40) (ci := 0) (kk := 2) dd_Q_text_0.2.2.2.2.2.2.2.2.2.2.2.2.2.2.2.2.2.2.2.2.2.1 rfl in_Q (by decide) wd_298 (gR_spec e17) ?_
    obtain ⟨u19, e18, hf⟩ := bd1_e hf
    obtain ⟨h20, e21, hf⟩ := bd1_e hf
    refine g_callV (pc := 43) (ci := 4) [.ref x16] (site_of si_Realm_copyFrom (by decide) (by decide)) wd_495 wd_496 wd_497 dd_Q_text_0.2.2.2.2.2.2.2.2.2.2.2.2.2.2.2.2.2.2.2.2.2.2.1 rfl e18 (Nat.le_of_ble_eq_true rfl) (fun z => absurd z si_na_Realm_copyFrom) (fun z => absurd z si_na_Realm_copyFrom) (fun z => absurd z si_na_Realm_copyFrom) (c_Realm_copyFrom e21) rfl ?_
    refine g_st [] rfl ?_
    refine g_iconst (pc := 46) (0 : Int32) dd_Q_text_0.2.2.2.2.2.2.2.2.2.2.2.2.2.2.2.2.2.2.2.2.2.2.2 (by decide) ?_
    refine g_istore_n (pc := 47) [(2, .int (0 : Int32)), (1, .int x9), (0, .ref a0)] dd_Q_text_47.1 rfl (Nat.le_of_ble_eq_true rfl) rfl ?_
    refine g_lv [2, 0] rfl ?_
    exact t_Q_text_48  FU _ _ _ _ _  hf
  · replace hf := (if_pos c26).symm.trans hf
    refine g_bipush (pc := 24) ((-10) : Int32) dd_Q_text_0.2.2.2.2.2.2.2.2.2.2.2.2.1 (by decide) ?_
    refine g_aload_n (pc := 26) 1 dd_Q_text_0.2.2.2.2.2.2.2.2.2.2.2.2.2.1 rfl rfl ?_
    obtain ⟨x22, e23, hf⟩ := bd1_e hf
    refine g_get (pc := 27) (ci := 0) (kk := 0) dd_Q_text_0.2.2.2.2.2.2.2.2.2.2.2.2.2.2.1 rfl in_Q (by decide) wd_296 (gR_spec e23) ?_
    obtain ⟨x24, e25, hf⟩ := bd1_e hf
    refine g_get (pc := 30) (ci := 3) (kk := 3) dd_Q_text_0.2.2.2.2.2.2.2.2.2.2.2.2.2.2.2.1 rfl in_Reader (by decide) wd_38 (gI_spec e25) ?_
    refine g_isub (pc := 33) dd_Q_text_0.2.2.2.2.2.2.2.2.2.2.2.2.2.2.2.2.1 ?_
    obtain ⟨rfl, rfl⟩ := ret2 hf
    exact g_iret (pc := 34) rfl dd_Q_text_0.2.2.2.2.2.2.2.2.2.2.2.2.2.2.2.2.2.1
def f_Q_text (a0 : Nat) (h : mH) : Option (Int32 × mH) := f_Q_text_0 a0 h
theorem c_Q_text {sc : Nat × (Nat → Int32)} {a0 : Nat} {h : mH} {r : Int32} {h' : mH} (hf : f_Q_text a0 h = some (r, h')) : MM sc y_Q_text prog_1_method_4_code 3 (some .int) 7 151 [.ref a0] h (some (.int r)) h' :=
  mm_of_G si_pn_Q (Nat.le_of_ble_eq_true rfl) (t_Q_text_0 _ _ _ _ hf)
/-! Q fault ()I -/
set_option maxRecDepth 100000 in
theorem dd_Q_fault_0 : (decode prog_1_method_5_code 0 = .ok (.aload_n 0, 1)) ∧ (decode prog_1_method_5_code 1 = .ok (.getfield 10, 3)) ∧ (decode prog_1_method_5_code 4 = .ok (.getfield 88, 3)) ∧ (decode prog_1_method_5_code 7 = .ok (.ireturn, 1)) := by
  have h : List.drop 0 prog_1_method_5_code.data.toList = 0x2a :: _ := rfl
  refine ⟨zq_k_n 42 h rfl (zq_o_42 _), ?_⟩
  replace h := zq_nx1 (q := 1) h rfl
  refine ⟨zq_k_u2 180 (fun z => .getfield z) 10 h rfl (zq_o_180 _) (by decide +kernel), ?_⟩
  replace h := zq_nx3 (q := 4) h rfl
  refine ⟨zq_k_u2 180 (fun z => .getfield z) 88 h rfl (zq_o_180 _) (by decide +kernel), ?_⟩
  replace h := zq_nx3 (q := 7) h rfl
  exact zq_k_n 172 h rfl (zq_o_172 _)
def f_Q_fault_0  (a0 : Nat) (h : mH) : Option (Int32 × mH) :=
  bd1 (gR h a0 0 0) fun x1 =>
  bd1 (gI h x1 3 2) fun x3 =>
  some (x3, h)
set_option maxRecDepth 20000 in
theorem t_Q_fault_0 {sc : Nat × (Nat → Int32)}  (a0 : Nat) (h : mH) (r : Int32) (h' : mH) (hf : f_Q_fault_0  a0 h = some (r, h')) : G sc y_Q_fault prog_1_method_5_code 1 (some .int) 0 0 0 [(0, .ref a0)] [] h (some (.int r)) h' := by
  unfold f_Q_fault_0 at hf
  refine g_aload_n (pc := 0) 0 dd_Q_fault_0.1 rfl rfl ?_
  obtain ⟨x1, e2, hf⟩ := bd1_e hf
  refine g_get (pc := 1) (ci := 0) (kk := 0) dd_Q_fault_0.2.1 rfl in_Q (by decide) wd_296 (gR_spec e2) ?_
  obtain ⟨x3, e4, hf⟩ := bd1_e hf
  refine g_get (pc := 4) (ci := 3) (kk := 2) dd_Q_fault_0.2.2.1 rfl in_Reader (by decide) wd_36 (gI_spec e4) ?_
  obtain ⟨rfl, rfl⟩ := ret2 hf
  exact g_iret (pc := 7) rfl dd_Q_fault_0.2.2.2
def f_Q_fault (a0 : Nat) (h : mH) : Option (Int32 × mH) := f_Q_fault_0 a0 h
theorem c_Q_fault {sc : Nat × (Nat → Int32)} {a0 : Nat} {h : mH} {r : Int32} {h' : mH} (hf : f_Q_fault a0 h = some (r, h')) : MM sc y_Q_fault prog_1_method_5_code 1 (some .int) 0 0 [.ref a0] h (some (.int r)) h' :=
  mm_of_G si_pn_Q (Nat.le_of_ble_eq_true rfl) (t_Q_fault_0 _ _ _ _ hf)
/-! Q rule (I)I -/
set_option maxRecDepth 100000 in
theorem dd_Q_rule_0 : (decode prog_1_method_6_code 0 = .ok (.iload_n 1, 1)) ∧ (decode prog_1_method_6_code 1 = .ok (.tableswitch 87 0 5 #[39, 47, 55, 63, 71, 79], 39)) ∧ (decode prog_1_method_6_code 40 = .ok (.aload_n 0, 1)) ∧ (decode prog_1_method_6_code 41 = .ok (.getfield 19, 3)) ∧ (decode prog_1_method_6_code 44 = .ok (.getfield 91, 3)) ∧ (decode prog_1_method_6_code 47 = .ok (.ireturn, 1)) ∧ (decode prog_1_method_6_code 48 = .ok (.aload_n 0, 1)) ∧ (decode prog_1_method_6_code 49 = .ok (.getfield 19, 3)) ∧ (decode prog_1_method_6_code 52 = .ok (.getfield 94, 3)) ∧ (decode prog_1_method_6_code 55 = .ok (.ireturn, 1)) ∧ (decode prog_1_method_6_code 56 = .ok (.aload_n 0, 1)) ∧ (decode prog_1_method_6_code 57 = .ok (.getfield 19, 3)) ∧ (decode prog_1_method_6_code 60 = .ok (.getfield 97, 3)) ∧ (decode prog_1_method_6_code 63 = .ok (.ireturn, 1)) ∧ (decode prog_1_method_6_code 64 = .ok (.aload_n 0, 1)) ∧ (decode prog_1_method_6_code 65 = .ok (.getfield 19, 3)) ∧ (decode prog_1_method_6_code 68 = .ok (.getfield 100, 3)) ∧ (decode prog_1_method_6_code 71 = .ok (.ireturn, 1)) ∧ (decode prog_1_method_6_code 72 = .ok (.aload_n 0, 1)) ∧ (decode prog_1_method_6_code 73 = .ok (.getfield 19, 3)) ∧ (decode prog_1_method_6_code 76 = .ok (.getfield 103, 3)) ∧ (decode prog_1_method_6_code 79 = .ok (.ireturn, 1)) ∧ (decode prog_1_method_6_code 80 = .ok (.aload_n 0, 1)) ∧ (decode prog_1_method_6_code 81 = .ok (.getfield 19, 3)) := by
  have h : List.drop 0 prog_1_method_6_code.data.toList = 0x1b :: _ := rfl
  refine ⟨zq_k_n 27 h rfl (zq_o_27 _), ?_⟩
  replace h := zq_nx1 (q := 1) h rfl
  refine ⟨by decide +kernel, ?_⟩
  have h : List.drop 40 prog_1_method_6_code.data.toList = 0x2a :: _ := rfl
  refine ⟨zq_k_n 42 h rfl (zq_o_42 _), ?_⟩
  replace h := zq_nx1 (q := 41) h rfl
  refine ⟨zq_k_u2 180 (fun z => .getfield z) 19 h rfl (zq_o_180 _) (by decide +kernel), ?_⟩
  replace h := zq_nx3 (q := 44) h rfl
  refine ⟨zq_k_u2 180 (fun z => .getfield z) 91 h rfl (zq_o_180 _) (by decide +kernel), ?_⟩
  replace h := zq_nx3 (q := 47) h rfl
  refine ⟨zq_k_n 172 h rfl (zq_o_172 _), ?_⟩
  replace h := zq_nx1 (q := 48) h rfl
  refine ⟨zq_k_n 42 h rfl (zq_o_42 _), ?_⟩
  replace h := zq_nx1 (q := 49) h rfl
  refine ⟨zq_k_u2 180 (fun z => .getfield z) 19 h rfl (zq_o_180 _) (by decide +kernel), ?_⟩
  replace h := zq_nx3 (q := 52) h rfl
  refine ⟨zq_k_u2 180 (fun z => .getfield z) 94 h rfl (zq_o_180 _) (by decide +kernel), ?_⟩
  replace h := zq_nx3 (q := 55) h rfl
  refine ⟨zq_k_n 172 h rfl (zq_o_172 _), ?_⟩
  replace h := zq_nx1 (q := 56) h rfl
  refine ⟨zq_k_n 42 h rfl (zq_o_42 _), ?_⟩
  replace h := zq_nx1 (q := 57) h rfl
  refine ⟨zq_k_u2 180 (fun z => .getfield z) 19 h rfl (zq_o_180 _) (by decide +kernel), ?_⟩
  replace h := zq_nx3 (q := 60) h rfl
  refine ⟨zq_k_u2 180 (fun z => .getfield z) 97 h rfl (zq_o_180 _) (by decide +kernel), ?_⟩
  replace h := zq_nx3 (q := 63) h rfl
  refine ⟨zq_k_n 172 h rfl (zq_o_172 _), ?_⟩
  replace h := zq_nx1 (q := 64) h rfl
  refine ⟨zq_k_n 42 h rfl (zq_o_42 _), ?_⟩
  replace h := zq_nx1 (q := 65) h rfl
  refine ⟨zq_k_u2 180 (fun z => .getfield z) 19 h rfl (zq_o_180 _) (by decide +kernel), ?_⟩
  replace h := zq_nx3 (q := 68) h rfl
  refine ⟨zq_k_u2 180 (fun z => .getfield z) 100 h rfl (zq_o_180 _) (by decide +kernel), ?_⟩
  replace h := zq_nx3 (q := 71) h rfl
  refine ⟨zq_k_n 172 h rfl (zq_o_172 _), ?_⟩
  replace h := zq_nx1 (q := 72) h rfl
  refine ⟨zq_k_n 42 h rfl (zq_o_42 _), ?_⟩
  replace h := zq_nx1 (q := 73) h rfl
  refine ⟨zq_k_u2 180 (fun z => .getfield z) 19 h rfl (zq_o_180 _) (by decide +kernel), ?_⟩
  replace h := zq_nx3 (q := 76) h rfl
  refine ⟨zq_k_u2 180 (fun z => .getfield z) 103 h rfl (zq_o_180 _) (by decide +kernel), ?_⟩
  replace h := zq_nx3 (q := 79) h rfl
  refine ⟨zq_k_n 172 h rfl (zq_o_172 _), ?_⟩
  replace h := zq_nx1 (q := 80) h rfl
  refine ⟨zq_k_n 42 h rfl (zq_o_42 _), ?_⟩
  replace h := zq_nx1 (q := 81) h rfl
  exact zq_k_u2 180 (fun z => .getfield z) 19 h rfl (zq_o_180 _) (by decide +kernel)
set_option maxRecDepth 100000 in
theorem dd_Q_rule_84 : (decode prog_1_method_6_code 84 = .ok (.getfield 106, 3)) ∧ (decode prog_1_method_6_code 87 = .ok (.ireturn, 1)) ∧ (decode prog_1_method_6_code 88 = .ok (.iconst (-1), 1)) ∧ (decode prog_1_method_6_code 89 = .ok (.ireturn, 1)) := by
  have h : List.drop 84 prog_1_method_6_code.data.toList = 0xb4 :: _ := rfl
  refine ⟨zq_k_u2 180 (fun z => .getfield z) 106 h rfl (zq_o_180 _) (by decide +kernel), ?_⟩
  replace h := zq_nx3 (q := 87) h rfl
  refine ⟨zq_k_n 172 h rfl (zq_o_172 _), ?_⟩
  replace h := zq_nx1 (q := 88) h rfl
  refine ⟨zq_k_n 2 h rfl (zq_o_2 _), ?_⟩
  replace h := zq_nx1 (q := 89) h rfl
  exact zq_k_n 172 h rfl (zq_o_172 _)
def f_Q_rule_0  (a0 : Nat) (a1 : Int32) (h : mH) : Option (Int32 × mH) :=
  if a1 = (0 : Int32) then
    bd1 (gR h a0 0 1) fun x2 =>
    bd1 (gI h x2 4 0) fun x4 =>
    some (x4, h)
  else
  if a1 = (1 : Int32) then
    bd1 (gR h a0 0 1) fun x7 =>
    bd1 (gI h x7 4 1) fun x9 =>
    some (x9, h)
  else
  if a1 = (2 : Int32) then
    bd1 (gR h a0 0 1) fun x12 =>
    bd1 (gI h x12 4 2) fun x14 =>
    some (x14, h)
  else
  if a1 = (3 : Int32) then
    bd1 (gR h a0 0 1) fun x17 =>
    bd1 (gI h x17 4 3) fun x19 =>
    some (x19, h)
  else
  if a1 = (4 : Int32) then
    bd1 (gR h a0 0 1) fun x22 =>
    bd1 (gI h x22 4 4) fun x24 =>
    some (x24, h)
  else
  if a1 = (5 : Int32) then
    bd1 (gR h a0 0 1) fun x27 =>
    bd1 (gI h x27 4 5) fun x29 =>
    some (x29, h)
  else
  some (((-1) : Int32), h)
set_option maxRecDepth 20000 in
theorem t_Q_rule_0 {sc : Nat × (Nat → Int32)}  (a0 : Nat) (a1 : Int32) (h : mH) (r : Int32) (h' : mH) (hf : f_Q_rule_0  a0 a1 h = some (r, h')) : G sc y_Q_rule prog_1_method_6_code 2 (some .int) 0 0 0 [(0, .ref a0), (1, .int a1)] [] h (some (.int r)) h' := by
  unfold f_Q_rule_0 at hf
  refine g_iload_n (pc := 0) 1 dd_Q_rule_0.1 rfl rfl ?_
  by_cases c1 : a1 = (0 : Int32)
  · replace hf := (if_pos c1).symm.trans hf
    refine g_tabIn (pc := 1) 40 (0 : Int32) dd_Q_rule_0.2.1 c1 (by decide) (by decide) rfl (by decide) ?_
    refine g_aload_n (pc := 40) 0 dd_Q_rule_0.2.2.1 rfl rfl ?_
    obtain ⟨x2, e3, hf⟩ := bd1_e hf
    refine g_get (pc := 41) (ci := 0) (kk := 1) dd_Q_rule_0.2.2.2.1 rfl in_Q (by decide) wd_297 (gR_spec e3) ?_
    obtain ⟨x4, e5, hf⟩ := bd1_e hf
    refine g_get (pc := 44) (ci := 4) (kk := 0) dd_Q_rule_0.2.2.2.2.1 rfl in_Realm (by decide) wd_97 (gI_spec e5) ?_
    obtain ⟨rfl, rfl⟩ := ret2 hf
    exact g_iret (pc := 47) rfl dd_Q_rule_0.2.2.2.2.2.1
  replace hf := (if_neg c1).symm.trans hf
  by_cases c6 : a1 = (1 : Int32)
  · replace hf := (if_pos c6).symm.trans hf
    refine g_tabIn (pc := 1) 48 (1 : Int32) dd_Q_rule_0.2.1 c6 (by decide) (by decide) rfl (by decide) ?_
    refine g_aload_n (pc := 48) 0 dd_Q_rule_0.2.2.2.2.2.2.1 rfl rfl ?_
    obtain ⟨x7, e8, hf⟩ := bd1_e hf
    refine g_get (pc := 49) (ci := 0) (kk := 1) dd_Q_rule_0.2.2.2.2.2.2.2.1 rfl in_Q (by decide) wd_297 (gR_spec e8) ?_
    obtain ⟨x9, e10, hf⟩ := bd1_e hf
    refine g_get (pc := 52) (ci := 4) (kk := 1) dd_Q_rule_0.2.2.2.2.2.2.2.2.1 rfl in_Realm (by decide) wd_102 (gI_spec e10) ?_
    obtain ⟨rfl, rfl⟩ := ret2 hf
    exact g_iret (pc := 55) rfl dd_Q_rule_0.2.2.2.2.2.2.2.2.2.1
  replace hf := (if_neg c6).symm.trans hf
  by_cases c11 : a1 = (2 : Int32)
  · replace hf := (if_pos c11).symm.trans hf
    refine g_tabIn (pc := 1) 56 (2 : Int32) dd_Q_rule_0.2.1 c11 (by decide) (by decide) rfl (by decide) ?_
    refine g_aload_n (pc := 56) 0 dd_Q_rule_0.2.2.2.2.2.2.2.2.2.2.1 rfl rfl ?_
    obtain ⟨x12, e13, hf⟩ := bd1_e hf
    refine g_get (pc := 57) (ci := 0) (kk := 1) dd_Q_rule_0.2.2.2.2.2.2.2.2.2.2.2.1 rfl in_Q (by decide) wd_297 (gR_spec e13) ?_
    obtain ⟨x14, e15, hf⟩ := bd1_e hf
    refine g_get (pc := 60) (ci := 4) (kk := 2) dd_Q_rule_0.2.2.2.2.2.2.2.2.2.2.2.2.1 rfl in_Realm (by decide) wd_104 (gI_spec e15) ?_
    obtain ⟨rfl, rfl⟩ := ret2 hf
    exact g_iret (pc := 63) rfl dd_Q_rule_0.2.2.2.2.2.2.2.2.2.2.2.2.2.1
  replace hf := (if_neg c11).symm.trans hf
  by_cases c16 : a1 = (3 : Int32)
  · replace hf := (if_pos c16).symm.trans hf
    refine g_tabIn (pc := 1) 64 (3 : Int32) dd_Q_rule_0.2.1 c16 (by decide) (by decide) rfl (by decide) ?_
    refine g_aload_n (pc := 64) 0 dd_Q_rule_0.2.2.2.2.2.2.2.2.2.2.2.2.2.2.1 rfl rfl ?_
    obtain ⟨x17, e18, hf⟩ := bd1_e hf
    refine g_get (pc := 65) (ci := 0) (kk := 1) dd_Q_rule_0.2.2.2.2.2.2.2.2.2.2.2.2.2.2.2.1 rfl in_Q (by decide) wd_297 (gR_spec e18) ?_
    obtain ⟨x19, e20, hf⟩ := bd1_e hf
    refine g_get (pc := 68) (ci := 4) (kk := 3) dd_Q_rule_0.2.2.2.2.2.2.2.2.2.2.2.2.2.2.2.2.1 rfl in_Realm (by decide) wd_106 (gI_spec e20) ?_
    obtain ⟨rfl, rfl⟩ := ret2 hf
    exact g_iret (pc := 71) rfl dd_Q_rule_0.2.2.2.2.2.2.2.2.2.2.2.2.2.2.2.2.2.1
  replace hf := (if_neg c16).symm.trans hf
  by_cases c21 : a1 = (4 : Int32)
  · replace hf := (if_pos c21).symm.trans hf
    refine g_tabIn (pc := 1) 72 (4 : Int32) dd_Q_rule_0.2.1 c21 (by decide) (by decide) rfl (by decide) ?_
    refine g_aload_n (pc := 72) 0 dd_Q_rule_0.2.2.2.2.2.2.2.2.2.2.2.2.2.2.2.2.2.2.1 rfl rfl ?_
    obtain ⟨x22, e23, hf⟩ := bd1_e hf
    refine g_get (pc := 73) (ci := 0) (kk := 1) dd_Q_rule_0.2.2.2.2.2.2.2.2.2.2.2.2.2.2.2.2.2.2.2.1 rfl in_Q (by decide) wd_297 (gR_spec e23) ?_
    obtain ⟨x24, e25, hf⟩ := bd1_e hf
    refine g_get (pc := 76) (ci := 4) (kk := 4) dd_Q_rule_0.2.2.2.2.2.2.2.2.2.2.2.2.2.2.2.2.2.2.2.2.1 rfl in_Realm (by decide) wd_109 (gI_spec e25) ?_
    obtain ⟨rfl, rfl⟩ := ret2 hf
    exact g_iret (pc := 79) rfl dd_Q_rule_0.2.2.2.2.2.2.2.2.2.2.2.2.2.2.2.2.2.2.2.2.2.1
  replace hf := (if_neg c21).symm.trans hf
  by_cases c26 : a1 = (5 : Int32)
  · replace hf := (if_pos c26).symm.trans hf
    refine g_tabIn (pc := 1) 80 (5 : Int32) dd_Q_rule_0.2.1 c26 (by decide) (by decide) rfl (by decide) ?_
    refine g_aload_n (pc := 80) 0 dd_Q_rule_0.2.2.2.2.2.2.2.2.2.2.2.2.2.2.2.2.2.2.2.2.2.2.1 rfl rfl ?_
    obtain ⟨x27, e28, hf⟩ := bd1_e hf
    refine g_get (pc := 81) (ci := 0) (kk := 1) dd_Q_rule_0.2.2.2.2.2.2.2.2.2.2.2.2.2.2.2.2.2.2.2.2.2.2.2 rfl in_Q (by decide) wd_297 (gR_spec e28) ?_
    obtain ⟨x29, e30, hf⟩ := bd1_e hf
    refine g_get (pc := 84) (ci := 4) (kk := 5) dd_Q_rule_84.1 rfl in_Realm (by decide) wd_111 (gI_spec e30) ?_
    obtain ⟨rfl, rfl⟩ := ret2 hf
    exact g_iret (pc := 87) rfl dd_Q_rule_84.2.1
  replace hf := (if_neg c26).symm.trans hf
  refine g_tabOut (pc := 1) 88 6 dd_Q_rule_0.2.1 (by decide) (fun i hi => ?_) (by decide) ?_
  · rcases (show i = 0 ∨ i = 1 ∨ i = 2 ∨ i = 3 ∨ i = 4 ∨ i = 5 by omega) with rfl | rfl | rfl | rfl | rfl | rfl
    · exact c1
    · exact c6
    · exact c11
    · exact c16
    · exact c21
    · exact c26
  refine g_iconst (pc := 88) ((-1) : Int32) dd_Q_rule_84.2.2.1 (by decide) ?_
  obtain ⟨rfl, rfl⟩ := ret2 hf
  exact g_iret (pc := 89) rfl dd_Q_rule_84.2.2.2
def f_Q_rule (a0 : Nat) (a1 : Int32) (h : mH) : Option (Int32 × mH) := f_Q_rule_0 a0 a1 h
theorem c_Q_rule {sc : Nat × (Nat → Int32)} {a0 : Nat} {a1 : Int32} {h : mH} {r : Int32} {h' : mH} (hf : f_Q_rule a0 a1 h = some (r, h')) : MM sc y_Q_rule prog_1_method_6_code 2 (some .int) 0 0 [.ref a0, .int a1] h (some (.int r)) h' :=
  mm_of_G si_pn_Q (Nat.le_of_ble_eq_true rfl) (t_Q_rule_0 _ _ _ _ _ hf)
/-! Realm brokenBy (II)I -/
set_option maxRecDepth 100000 in
theorem dd_Realm_brokenBy_0 : (decode prog_5_method_7_code 0 = .ok (.aload_n 0, 1)) ∧ (decode prog_5_method_7_code 1 = .ok (.getfield 45, 3)) ∧ (decode prog_5_method_7_code 4 = .ok (.iload_n 1, 1)) ∧ (decode prog_5_method_7_code 5 = .ok (.iconst 5, 1)) ∧ (decode prog_5_method_7_code 6 = .ok (.imul, 1)) ∧ (decode prog_5_method_7_code 7 = .ok (.iload_n 2, 1)) ∧ (decode prog_5_method_7_code 8 = .ok (.iadd, 1)) ∧ (decode prog_5_method_7_code 9 = .ok (.iaload, 1)) ∧ (decode prog_5_method_7_code 10 = .ok (.ireturn, 1)) := by
  have h : List.drop 0 prog_5_method_7_code.data.toList = 0x2a :: _ := rfl
  refine ⟨zq_k_n 42 h rfl (zq_o_42 _), ?_⟩
  replace h := zq_nx1 (q := 1) h rfl
  refine ⟨zq_k_u2 180 (fun z => .getfield z) 45 h rfl (zq_o_180 _) (by decide +kernel), ?_⟩
  replace h := zq_nx3 (q := 4) h rfl
  refine ⟨zq_k_n 27 h rfl (zq_o_27 _), ?_⟩
  replace h := zq_nx1 (q := 5) h rfl
  refine ⟨zq_k_n 8 h rfl (zq_o_8 _), ?_⟩
  replace h := zq_nx1 (q := 6) h rfl
  refine ⟨zq_k_n 104 h rfl (zq_o_104 _), ?_⟩
  replace h := zq_nx1 (q := 7) h rfl
  refine ⟨zq_k_n 28 h rfl (zq_o_28 _), ?_⟩
  replace h := zq_nx1 (q := 8) h rfl
  refine ⟨zq_k_n 96 h rfl (zq_o_96 _), ?_⟩
  replace h := zq_nx1 (q := 9) h rfl
  refine ⟨zq_k_n 46 h rfl (zq_o_46 _), ?_⟩
  replace h := zq_nx1 (q := 10) h rfl
  exact zq_k_n 172 h rfl (zq_o_172 _)
def f_Realm_brokenBy_0  (a0 : Nat) (a1 : Int32) (a2 : Int32) (h : mH) : Option (Int32 × mH) :=
  bd1 (gR h a0 4 17) fun x1 =>
  bd1 (aI h 0 x1 ((a1 * (5 : Int32)) + a2)) fun x3 =>
  some (x3, h)
set_option maxRecDepth 20000 in
theorem t_Realm_brokenBy_0 {sc : Nat × (Nat → Int32)}  (a0 : Nat) (a1 : Int32) (a2 : Int32) (h : mH) (r : Int32) (h' : mH) (hf : f_Realm_brokenBy_0  a0 a1 a2 h = some (r, h')) : G sc y_Realm_brokenBy prog_5_method_7_code 3 (some .int) 0 0 0 [(0, .ref a0), (1, .int a1), (2, .int a2)] [] h (some (.int r)) h' := by
  unfold f_Realm_brokenBy_0 at hf
  refine g_aload_n (pc := 0) 0 dd_Realm_brokenBy_0.1 rfl rfl ?_
  obtain ⟨x1, e2, hf⟩ := bd1_e hf
  refine g_get (pc := 1) (ci := 4) (kk := 17) dd_Realm_brokenBy_0.2.1 rfl in_Realm (by decide) wd_152 (gR_spec e2) ?_
  refine g_iload_n (pc := 4) 1 dd_Realm_brokenBy_0.2.2.1 rfl rfl ?_
  refine g_iconst (pc := 5) (5 : Int32) dd_Realm_brokenBy_0.2.2.2.1 (by decide) ?_
  refine g_imul (pc := 6) dd_Realm_brokenBy_0.2.2.2.2.1 ?_
  refine g_iload_n (pc := 7) 2 dd_Realm_brokenBy_0.2.2.2.2.2.1 rfl rfl ?_
  refine g_iadd (pc := 8) dd_Realm_brokenBy_0.2.2.2.2.2.2.1 ?_
  obtain ⟨x3, e4, hf⟩ := bd1_e hf
  refine g_iald (pc := 9) dd_Realm_brokenBy_0.2.2.2.2.2.2.2.1 e4 ?_
  obtain ⟨rfl, rfl⟩ := ret2 hf
  exact g_iret (pc := 10) rfl dd_Realm_brokenBy_0.2.2.2.2.2.2.2.2
def f_Realm_brokenBy (a0 : Nat) (a1 : Int32) (a2 : Int32) (h : mH) : Option (Int32 × mH) := f_Realm_brokenBy_0 a0 a1 a2 h
theorem c_Realm_brokenBy {sc : Nat × (Nat → Int32)} {a0 : Nat} {a1 : Int32} {a2 : Int32} {h : mH} {r : Int32} {h' : mH} (hf : f_Realm_brokenBy a0 a1 a2 h = some (r, h')) : MM sc y_Realm_brokenBy prog_5_method_7_code 3 (some .int) 0 0 [.ref a0, .int a1, .int a2] h (some (.int r)) h' :=
  mm_of_G si_pn_Realm (Nat.le_of_ble_eq_true rfl) (t_Realm_brokenBy_0 _ _ _ _ _ _ hf)
/-! Realm needOf (I)I -/
set_option maxRecDepth 100000 in
theorem dd_Realm_needOf_0 : (decode prog_5_method_10_code 0 = .ok (.aload_n 0, 1)) ∧ (decode prog_5_method_10_code 1 = .ok (.getfield 68, 3)) ∧ (decode prog_5_method_10_code 4 = .ok (.iload_n 1, 1)) ∧ (decode prog_5_method_10_code 5 = .ok (.invokestatic 104, 3)) ∧ (decode prog_5_method_10_code 8 = .ok (.ifCond .ne 5, 3)) ∧ (decode prog_5_method_10_code 11 = .ok (.iconst 0, 1)) ∧ (decode prog_5_method_10_code 12 = .ok (.ireturn, 1)) ∧ (decode prog_5_method_10_code 13 = .ok (.aload_n 0, 1)) ∧ (decode prog_5_method_10_code 14 = .ok (.getfield 9, 3)) ∧ (decode prog_5_method_10_code 17 = .ok (.iload_n 1, 1)) ∧ (decode prog_5_method_10_code 18 = .ok (.iaload, 1)) ∧ (decode prog_5_method_10_code 19 = .ok (.istore_n 2, 1)) ∧ (decode prog_5_method_10_code 20 = .ok (.iconst 0, 1)) ∧ (decode prog_5_method_10_code 21 = .ok (.istore_n 3, 1)) ∧ (decode prog_5_method_10_code 22 = .ok (.iload_n 3, 1)) ∧ (decode prog_5_method_10_code 23 = .ok (.aload_n 0, 1)) ∧ (decode prog_5_method_10_code 24 = .ok (.getfield 59, 3)) ∧ (decode prog_5_method_10_code 27 = .ok (.if_icmp .ge 18, 3)) ∧ (decode prog_5_method_10_code 30 = .ok (.iload_n 2, 1)) ∧ (decode prog_5_method_10_code 31 = .ok (.aload_n 0, 1)) ∧ (decode prog_5_method_10_code 32 = .ok (.iload_n 3, 1)) ∧ (decode prog_5_method_10_code 33 = .ok (.iload_n 1, 1)) ∧ (decode prog_5_method_10_code 34 = .ok (.invokevirtual 108, 3)) ∧ (decode prog_5_method_10_code 37 = .ok (.isub, 1)) := by
  have h : List.drop 0 prog_5_method_10_code.data.toList = 0x2a :: _ := rfl
  refine ⟨zq_k_n 42 h rfl (zq_o_42 _), ?_⟩
  replace h := zq_nx1 (q := 1) h rfl
  refine ⟨zq_k_u2 180 (fun z => .getfield z) 68 h rfl (zq_o_180 _) (by decide +kernel), ?_⟩
  replace h := zq_nx3 (q := 4) h rfl
  refine ⟨zq_k_n 27 h rfl (zq_o_27 _), ?_⟩
  replace h := zq_nx1 (q := 5) h rfl
  refine ⟨zq_k_u2 184 (fun z => .invokestatic z) 104 h rfl (zq_o_184 _) (by decide +kernel), ?_⟩
  replace h := zq_nx3 (q := 8) h rfl
  refine ⟨zq_k_s2 154 (fun z => .ifCond .ne z) 5 h rfl (zq_o_154 _) (by decide +kernel), ?_⟩
  replace h := zq_nx3 (q := 11) h rfl
  refine ⟨zq_k_n 3 h rfl (zq_o_3 _), ?_⟩
  replace h := zq_nx1 (q := 12) h rfl
  refine ⟨zq_k_n 172 h rfl (zq_o_172 _), ?_⟩
  replace h := zq_nx1 (q := 13) h rfl
  refine ⟨zq_k_n 42 h rfl (zq_o_42 _), ?_⟩
  replace h := zq_nx1 (q := 14) h rfl
  refine ⟨zq_k_u2 180 (fun z => .getfield z) 9 h rfl (zq_o_180 _) (by decide +kernel), ?_⟩
  replace h := zq_nx3 (q := 17) h rfl
  refine ⟨zq_k_n 27 h rfl (zq_o_27 _), ?_⟩
  replace h := zq_nx1 (q := 18) h rfl
  refine ⟨zq_k_n 46 h rfl (zq_o_46 _), ?_⟩
  replace h := zq_nx1 (q := 19) h rfl
  refine ⟨zq_k_n 61 h rfl (zq_o_61 _), ?_⟩
  replace h := zq_nx1 (q := 20) h rfl
  refine ⟨zq_k_n 3 h rfl (zq_o_3 _), ?_⟩
  replace h := zq_nx1 (q := 21) h rfl
  refine ⟨zq_k_n 62 h rfl (zq_o_62 _), ?_⟩
  replace h := zq_nx1 (q := 22) h rfl
  refine ⟨zq_k_n 29 h rfl (zq_o_29 _), ?_⟩
  replace h := zq_nx1 (q := 23) h rfl
  refine ⟨zq_k_n 42 h rfl (zq_o_42 _), ?_⟩
  replace h := zq_nx1 (q := 24) h rfl
  refine ⟨zq_k_u2 180 (fun z => .getfield z) 59 h rfl (zq_o_180 _) (by decide +kernel), ?_⟩
  replace h := zq_nx3 (q := 27) h rfl
  refine ⟨zq_k_s2 162 (fun z => .if_icmp .ge z) 18 h rfl (zq_o_162 _) (by decide +kernel), ?_⟩
  replace h := zq_nx3 (q := 30) h rfl
  refine ⟨zq_k_n 28 h rfl (zq_o_28 _), ?_⟩
  replace h := zq_nx1 (q := 31) h rfl
  refine ⟨zq_k_n 42 h rfl (zq_o_42 _), ?_⟩
  replace h := zq_nx1 (q := 32) h rfl
  refine ⟨zq_k_n 29 h rfl (zq_o_29 _), ?_⟩
  replace h := zq_nx1 (q := 33) h rfl
  refine ⟨zq_k_n 27 h rfl (zq_o_27 _), ?_⟩
  replace h := zq_nx1 (q := 34) h rfl
  refine ⟨zq_k_u2 182 (fun z => .invokevirtual z) 108 h rfl (zq_o_182 _) (by decide +kernel), ?_⟩
  replace h := zq_nx3 (q := 37) h rfl
  exact zq_k_n 100 h rfl (zq_o_100 _)
set_option maxRecDepth 100000 in
theorem dd_Realm_needOf_38 : (decode prog_5_method_10_code 38 = .ok (.istore_n 2, 1)) ∧ (decode prog_5_method_10_code 39 = .ok (.iinc 3 1, 3)) ∧ (decode prog_5_method_10_code 42 = .ok (.goto (-20), 3)) ∧ (decode prog_5_method_10_code 45 = .ok (.iconst 0, 1)) ∧ (decode prog_5_method_10_code 46 = .ok (.iload_n 2, 1)) ∧ (decode prog_5_method_10_code 47 = .ok (.invokestatic 112, 3)) ∧ (decode prog_5_method_10_code 50 = .ok (.ireturn, 1)) := by
  have h : List.drop 38 prog_5_method_10_code.data.toList = 0x3d :: _ := rfl
  refine ⟨zq_k_n 61 h rfl (zq_o_61 _), ?_⟩
  replace h := zq_nx1 (q := 39) h rfl
  refine ⟨zq_k_iinc 3 1 h rfl (zq_o_132 _) (by decide +kernel) (by decide +kernel), ?_⟩
  replace h := zq_nx3 (q := 42) h rfl
  refine ⟨zq_k_s2 167 (fun z => .goto z) (-20) h rfl (zq_o_167 _) (by decide +kernel), ?_⟩
  replace h := zq_nx3 (q := 45) h rfl
  refine ⟨zq_k_n 3 h rfl (zq_o_3 _), ?_⟩
  replace h := zq_nx1 (q := 46) h rfl
  refine ⟨zq_k_n 28 h rfl (zq_o_28 _), ?_⟩
  replace h := zq_nx1 (q := 47) h rfl
  refine ⟨zq_k_u2 184 (fun z => .invokestatic z) 112 h rfl (zq_o_184 _) (by decide +kernel), ?_⟩
  replace h := zq_nx3 (q := 50) h rfl
  exact zq_k_n 172 h rfl (zq_o_172 _)
def f_Realm_needOf_22b (rec22 : Nat → Int32 → Int32 → Int32 → mH → Option (Int32 × mH)) (b0 : Nat) (b1 : Int32) (b2 : Int32) (b3 : Int32) (h : mH) : Option (Int32 × mH) :=
  bd1 (gI h b0 4 1) fun x11 =>
  if x11 ≤ b3 then
    some (if (0 : Int32) < b2 then b2 else (0 : Int32), h)
  else
    bd1 (kC h b0 4) fun _ =>
    bd2 (f_Realm_brokenBy b0 b3 b1 h) fun x17 h15 =>
    rec22 b0 b1 (b2 - x17) (b3 + (1 : Int32)) h15
set_option maxRecDepth 20000 in
theorem t_Realm_needOf_22b {sc : Nat × (Nat → Int32)} (rec22 : Nat → Int32 → Int32 → Int32 → mH → Option (Int32 × mH)) (hrec22 : ∀ (b0 : Nat) (b1 : Int32) (b2 : Int32) (b3 : Int32) (h : mH) (r : Int32) (h' : mH), rec22 b0 b1 b2 b3 h = some (r, h') → G sc y_Realm_needOf prog_5_method_10_code 4 (some .int) 1 22 22 [(0, .ref b0), (1, .int b1), (2, .int b2), (3, .int b3)] [] h (some (.int r)) h') (b0 : Nat) (b1 : Int32) (b2 : Int32) (b3 : Int32) (h : mH) (r : Int32) (h' : mH) (hf : f_Realm_needOf_22b rec22 b0 b1 b2 b3 h = some (r, h')) : G sc y_Realm_needOf prog_5_method_10_code 4 (some .int) 1 22 22 [(0, .ref b0), (1, .int b1), (2, .int b2), (3, .int b3)] [] h (some (.int r)) h' := by
  unfold f_Realm_needOf_22b at hf
  refine g_iload_n (pc := 22) 3 dd_Realm_needOf_0.2.2.2.2.2.2.2.2.2.2.2.2.2.2.1 rfl rfl ?_
  refine g_aload_n (pc := 23) 0 dd_Realm_needOf_0.2.2.2.2.2.2.2.2.2.2.2.2.2.2.2.1 rfl rfl ?_
  obtain ⟨x11, e12, hf⟩ := bd1_e hf
  refine g_get (pc := 24) (ci := 4) (kk := 1) dd_Realm_needOf_0.2.2.2.2.2.2.2.2.2.2.2.2.2.2.2.2.1 rfl in_Realm (by decide) wd_98 (gI_spec e12) ?_
  refine g_icmpge (pc := 27) 45 dd_Realm_needOf_0.2.2.2.2.2.2.2.2.2.2.2.2.2.2.2.2.2.1 (by decide) (fun c18 => ?_) (fun c18 => ?_)
  · replace hf := (if_pos c18).symm.trans hf
    refine g_iconst (pc := 45) (0 : Int32) dd_Realm_needOf_38.2.2.2.1 (by decide) ?_
    refine g_iload_n (pc := 46) 2 dd_Realm_needOf_38.2.2.2.2.1 rfl rfl ?_
    refine g_mmax (pc := 47) dd_Realm_needOf_38.2.2.2.2.2.1 wd_529 wd_530 wd_16 wd_531 (by decide) (Nat.le_of_ble_eq_true rfl) ?_
    obtain ⟨rfl, rfl⟩ := ret2 hf
    exact g_iret (pc := 50) rfl dd_Realm_needOf_38.2.2.2.2.2.2
  · replace hf := (if_neg c18).symm.trans hf
    refine g_iload_n (pc := 30) 2 dd_Realm_needOf_0.2.2.2.2.2.2.2.2.2.2.2.2.2.2.2.2.2.2.1 rfl rfl ?_
    refine g_aload_n (pc := 31) 0 dd_Realm_needOf_0.2.2.2.2.2.2.2.2.2.2.2.2.2.2.2.2.2.2.2.1 rfl rfl ?_
    refine g_iload_n (pc := 32) 3 dd_Realm_needOf_0.2.2.2.2.2.2.2.2.2.2.2.2.2.2.2.2.2.2.2.2.1 rfl rfl ?_
    refine g_iload_n (pc := 33) 1 dd_Realm_needOf_0.2.2.2.2.2.2.2.2.2.2.2.2.2.2.2.2.2.2.2.2.2.1 rfl rfl ?_
    obtain ⟨u14, e13, hf⟩ := bd1_e hf
    obtain ⟨x17, h15, e16, hf⟩ := bd2_e hf
    refine g_callV (pc := 34) (ci := 4) [.int b3, .int b1] (site_of si_Realm_brokenBy (by decide) (by decide)) wd_525 wd_526 wd_527 dd_Realm_needOf_0.2.2.2.2.2.2.2.2.2.2.2.2.2.2.2.2.2.2.2.2.2.2.1 rfl e13 (Nat.le_of_ble_eq_true rfl) (fun z => absurd z si_na_Realm_brokenBy) (fun z => absurd z si_na_Realm_brokenBy) (fun z => absurd z si_na_Realm_brokenBy) (c_Realm_brokenBy e16) rfl ?_
    refine g_st [.int x17, .int b2] rfl ?_
    refine g_isub (pc := 37) dd_Realm_needOf_0.2.2.2.2.2.2.2.2.2.2.2.2.2.2.2.2.2.2.2.2.2.2.2 ?_
    refine g_istore_n (pc := 38) [(2, .int (b2 - x17)), (0, .ref b0), (1, .int b1), (3, .int b3)] dd_Realm_needOf_38.1 rfl (Nat.le_of_ble_eq_true rfl) rfl ?_
    refine g_iinc (pc := 39) 3 (b3 + (1 : Int32)) [(3, .int (b3 + (1 : Int32))), (2, .int (b2 - x17)), (0, .ref b0), (1, .int b1)] dd_Realm_needOf_38.2.1 rfl rfl (Nat.le_of_ble_eq_true rfl) rfl ?_
    refine g_goto (pc := 42) 22 dd_Realm_needOf_38.2.2.1 (by decide) ?_
    refine g_lv [2, 3, 1, 0] rfl ?_
    exact hrec22 _ _ _ _ _ _ _  hf
def f_Realm_needOf_22  : Nat → Nat → Int32 → Int32 → Int32 → mH → Option (Int32 × mH)
  | 0 => fun _ _ _ _ _ => none
  | n + 1 => f_Realm_needOf_22b  (f_Realm_needOf_22  n)
theorem t_Realm_needOf_22 {sc : Nat × (Nat → Int32)}  : ∀ (n : Nat) (b0 : Nat) (b1 : Int32) (b2 : Int32) (b3 : Int32) (h : mH) (r : Int32) (h' : mH) (hf : f_Realm_needOf_22  n b0 b1 b2 b3 h = some (r, h')), G sc y_Realm_needOf prog_5_method_10_code 4 (some .int) 1 22 22 [(0, .ref b0), (1, .int b1), (2, .int b2), (3, .int b3)] [] h (some (.int r)) h'
  | 0, _, _, _, _, _, _, _, hf => by cases hf
  | n + 1, _, _, _, _, _, _, _, hf => t_Realm_needOf_22b  (f_Realm_needOf_22  n) (t_Realm_needOf_22  n) _ _ _ _ _ _ _ hf
def f_Realm_needOf_0  (a0 : Nat) (a1 : Int32) (h : mH) : Option (Int32 × mH) :=
  bd1 (gI h a0 4 4) fun x1 =>
  bd2 (f_Q_hasBit x1 a1 h) fun x5 h3 =>
  if x5 = 0 then
    some ((0 : Int32), h3)
  else
    bd1 (gR h3 a0 4 6) fun x6 =>
    bd1 (aI h3 0 x6 a1) fun x8 =>
    f_Realm_needOf_22  FU a0 a1 x8 (0 : Int32) h3
set_option maxRecDepth 20000 in
theorem t_Realm_needOf_0 {sc : Nat × (Nat → Int32)}  (a0 : Nat) (a1 : Int32) (h : mH) (r : Int32) (h' : mH) (hf : f_Realm_needOf_0  a0 a1 h = some (r, h')) : G sc y_Realm_needOf prog_5_method_10_code 4 (some .int) 1 22 0 [(0, .ref a0), (1, .int a1)] [] h (some (.int r)) h' := by
  unfold f_Realm_needOf_0 at hf
  refine g_aload_n (pc := 0) 0 dd_Realm_needOf_0.1 rfl rfl ?_
  obtain ⟨x1, e2, hf⟩ := bd1_e hf
  refine g_get (pc := 1) (ci := 4) (kk := 4) dd_Realm_needOf_0.2.1 rfl in_Realm (by decide) wd_107 (gI_spec e2) ?_
  refine g_iload_n (pc := 4) 1 dd_Realm_needOf_0.2.2.1 rfl rfl ?_
  obtain ⟨x5, h3, e4, hf⟩ := bd2_e hf
  refine g_callSN (pc := 5) "QuotaLaws" [.int x1, .int a1] (site_of si_Q_hasBit (by decide) (by decide)) wd_524 wd_469 dd_Realm_needOf_0.2.2.2.1 (Nat.le_of_ble_eq_true rfl) (fun z => absurd z si_na_Q_hasBit) (fun z => absurd z si_na_Q_hasBit) (fun z => absurd z si_na_Q_hasBit) (c_Q_hasBit e4) rfl ?_
  refine g_st [.int x5] rfl ?_
  refine g_ifne (pc := 8) 13 dd_Realm_needOf_0.2.2.2.2.1 (by decide) (fun c10 => ?_) (fun c10 => ?_)
  · replace hf := (if_neg c10).symm.trans hf
    refine g_aload_n (pc := 13) 0 dd_Realm_needOf_0.2.2.2.2.2.2.2.1 rfl rfl ?_
    obtain ⟨x6, e7, hf⟩ := bd1_e hf
    refine g_get (pc := 14) (ci := 4) (kk := 6) dd_Realm_needOf_0.2.2.2.2.2.2.2.2.1 rfl in_Realm (by decide) wd_113 (gR_spec e7) ?_
    refine g_iload_n (pc := 17) 1 dd_Realm_needOf_0.2.2.2.2.2.2.2.2.2.1 rfl rfl ?_
    obtain ⟨x8, e9, hf⟩ := bd1_e hf
    refine g_iald (pc := 18) dd_Realm_needOf_0.2.2.2.2.2.2.2.2.2.2.1 e9 ?_
    refine g_istore_n (pc := 19) [(2, .int x8), (0, .ref a0), (1, .int a1)] dd_Realm_needOf_0.2.2.2.2.2.2.2.2.2.2.2.1 rfl (Nat.le_of_ble_eq_true rfl) rfl ?_
    refine g_iconst (pc := 20) (0 : Int32) dd_Realm_needOf_0.2.2.2.2.2.2.2.2.2.2.2.2.1 (by decide) ?_
    refine g_istore_n (pc := 21) [(3, .int (0 : Int32)), (2, .int x8), (0, .ref a0), (1, .int a1)] dd_Realm_needOf_0.2.2.2.2.2.2.2.2.2.2.2.2.2.1 rfl (Nat.le_of_ble_eq_true rfl) rfl ?_
    refine g_lv [2, 3, 1, 0] rfl ?_
    exact t_Realm_needOf_22  FU _ _ _ _ _ _ _  hf
  · replace hf := (if_pos c10).symm.trans hf
    refine g_iconst (pc := 11) (0 : Int32) dd_Realm_needOf_0.2.2.2.2.2.1 (by decide) ?_
    obtain ⟨rfl, rfl⟩ := ret2 hf
    exact g_iret (pc := 12) rfl dd_Realm_needOf_0.2.2.2.2.2.2.1
def f_Realm_needOf (a0 : Nat) (a1 : Int32) (h : mH) : Option (Int32 × mH) := f_Realm_needOf_0 a0 a1 h
theorem c_Realm_needOf {sc : Nat × (Nat → Int32)} {a0 : Nat} {a1 : Int32} {h : mH} {r : Int32} {h' : mH} (hf : f_Realm_needOf a0 a1 h = some (r, h')) : MM sc y_Realm_needOf prog_5_method_10_code 4 (some .int) 1 22 [.ref a0, .int a1] h (some (.int r)) h' :=
  mm_of_G si_pn_Realm (Nat.le_of_ble_eq_true rfl) (t_Realm_needOf_0 _ _ _ _ _ hf)
/-! Realm chainOf (I)I -/
set_option maxRecDepth 100000 in
theorem dd_Realm_chainOf_0 : (decode prog_5_method_13_code 0 = .ok (.iconst 0, 1)) ∧ (decode prog_5_method_13_code 1 = .ok (.istore_n 2, 1)) ∧ (decode prog_5_method_13_code 2 = .ok (.iload_n 1, 1)) ∧ (decode prog_5_method_13_code 3 = .ok (.istore_n 3, 1)) ∧ (decode prog_5_method_13_code 4 = .ok (.iconst 0, 1)) ∧ (decode prog_5_method_13_code 5 = .ok (.istore 4, 2)) ∧ (decode prog_5_method_13_code 7 = .ok (.iload 4, 2)) ∧ (decode prog_5_method_13_code 9 = .ok (.aload_n 0, 1)) ∧ (decode prog_5_method_13_code 10 = .ok (.getfield 55, 3)) ∧ (decode prog_5_method_13_code 13 = .ok (.if_icmp .ge 30, 3)) ∧ (decode prog_5_method_13_code 16 = .ok (.aload_n 0, 1)) ∧ (decode prog_5_method_13_code 17 = .ok (.iload_n 3, 1)) ∧ (decode prog_5_method_13_code 18 = .ok (.invokevirtual 97, 3)) ∧ (decode prog_5_method_13_code 21 = .ok (.ifCond .eq 22, 3)) ∧ (decode prog_5_method_13_code 24 = .ok (.iload_n 2, 1)) ∧ (decode prog_5_method_13_code 25 = .ok (.iconst 1, 1)) ∧ (decode prog_5_method_13_code 26 = .ok (.iload_n 3, 1)) ∧ (decode prog_5_method_13_code 27 = .ok (.ishl, 1)) ∧ (decode prog_5_method_13_code 28 = .ok (.ior, 1)) ∧ (decode prog_5_method_13_code 29 = .ok (.istore_n 2, 1)) ∧ (decode prog_5_method_13_code 30 = .ok (.aload_n 0, 1)) ∧ (decode prog_5_method_13_code 31 = .ok (.getfield 24, 3)) ∧ (decode prog_5_method_13_code 34 = .ok (.iload_n 3, 1)) ∧ (decode prog_5_method_13_code 35 = .ok (.iaload, 1)) := by
  have h : List.drop 0 prog_5_method_13_code.data.toList = 0x03 :: _ := rfl
  refine ⟨zq_k_n 3 h rfl (zq_o_3 _), ?_⟩
  replace h := zq_nx1 (q := 1) h rfl
  refine ⟨zq_k_n 61 h rfl (zq_o_61 _), ?_⟩
  replace h := zq_nx1 (q := 2) h rfl
  refine ⟨zq_k_n 27 h rfl (zq_o_27 _), ?_⟩
  replace h := zq_nx1 (q := 3) h rfl
  refine ⟨zq_k_n 62 h rfl (zq_o_62 _), ?_⟩
  replace h := zq_nx1 (q := 4) h rfl
  refine ⟨zq_k_n 3 h rfl (zq_o_3 _), ?_⟩
  replace h := zq_nx1 (q := 5) h rfl
  refine ⟨zq_k_u1 54 (fun z => .istore z) 4 h rfl (zq_o_54 _) (by decide +kernel), ?_⟩
  replace h := zq_nx2 (q := 7) h rfl
  refine ⟨zq_k_u1 21 (fun z => .iload z) 4 h rfl (zq_o_21 _) (by decide +kernel), ?_⟩
  replace h := zq_nx2 (q := 9) h rfl
  refine ⟨zq_k_n 42 h rfl (zq_o_42 _), ?_⟩
  replace h := zq_nx1 (q := 10) h rfl
  refine ⟨zq_k_u2 180 (fun z => .getfield z) 55 h rfl (zq_o_180 _) (by decide +kernel), ?_⟩
  replace h := zq_nx3 (q := 13) h rfl
  refine ⟨zq_k_s2 162 (fun z => .if_icmp .ge z) 30 h rfl (zq_o_162 _) (by decide +kernel), ?_⟩
  replace h := zq_nx3 (q := 16) h rfl
  refine ⟨zq_k_n 42 h rfl (zq_o_42 _), ?_⟩
  replace h := zq_nx1 (q := 17) h rfl
  refine ⟨zq_k_n 29 h rfl (zq_o_29 _), ?_⟩
  replace h := zq_nx1 (q := 18) h rfl
  refine ⟨zq_k_u2 182 (fun z => .invokevirtual z) 97 h rfl (zq_o_182 _) (by decide +kernel), ?_⟩
  replace h := zq_nx3 (q := 21) h rfl
  refine ⟨zq_k_s2 153 (fun z => .ifCond .eq z) 22 h rfl (zq_o_153 _) (by decide +kernel), ?_⟩
  replace h := zq_nx3 (q := 24) h rfl
  refine ⟨zq_k_n 28 h rfl (zq_o_28 _), ?_⟩
  replace h := zq_nx1 (q := 25) h rfl
  refine ⟨zq_k_n 4 h rfl (zq_o_4 _), ?_⟩
  replace h := zq_nx1 (q := 26) h rfl
  refine ⟨zq_k_n 29 h rfl (zq_o_29 _), ?_⟩
  replace h := zq_nx1 (q := 27) h rfl
  refine ⟨zq_k_n 120 h rfl (zq_o_120 _), ?_⟩
  replace h := zq_nx1 (q := 28) h rfl
  refine ⟨zq_k_n 128 h rfl (zq_o_128 _), ?_⟩
  replace h := zq_nx1 (q := 29) h rfl
  refine ⟨zq_k_n 61 h rfl (zq_o_61 _), ?_⟩
  replace h := zq_nx1 (q := 30) h rfl
  refine ⟨zq_k_n 42 h rfl (zq_o_42 _), ?_⟩
  replace h := zq_nx1 (q := 31) h rfl
  refine ⟨zq_k_u2 180 (fun z => .getfield z) 24 h rfl (zq_o_180 _) (by decide +kernel), ?_⟩
  replace h := zq_nx3 (q := 34) h rfl
  refine ⟨zq_k_n 29 h rfl (zq_o_29 _), ?_⟩
  replace h := zq_nx1 (q := 35) h rfl
  exact zq_k_n 46 h rfl (zq_o_46 _)
set_option maxRecDepth 100000 in
theorem dd_Realm_chainOf_36 : (decode prog_5_method_13_code 36 = .ok (.istore_n 3, 1)) ∧ (decode prog_5_method_13_code 37 = .ok (.iinc 4 1, 3)) ∧ (decode prog_5_method_13_code 40 = .ok (.goto (-33), 3)) ∧ (decode prog_5_method_13_code 43 = .ok (.iload_n 2, 1)) ∧ (decode prog_5_method_13_code 44 = .ok (.ireturn, 1)) := by
  have h : List.drop 36 prog_5_method_13_code.data.toList = 0x3e :: _ := rfl
  refine ⟨zq_k_n 62 h rfl (zq_o_62 _), ?_⟩
  replace h := zq_nx1 (q := 37) h rfl
  refine ⟨zq_k_iinc 4 1 h rfl (zq_o_132 _) (by decide +kernel) (by decide +kernel), ?_⟩
  replace h := zq_nx3 (q := 40) h rfl
  refine ⟨zq_k_s2 167 (fun z => .goto z) (-33) h rfl (zq_o_167 _) (by decide +kernel), ?_⟩
  replace h := zq_nx3 (q := 43) h rfl
  refine ⟨zq_k_n 28 h rfl (zq_o_28 _), ?_⟩
  replace h := zq_nx1 (q := 44) h rfl
  exact zq_k_n 172 h rfl (zq_o_172 _)
def f_Realm_chainOf_43  (b2 : Int32) (h : mH) : Option (Int32 × mH) :=
  some (b2, h)
set_option maxRecDepth 20000 in
theorem t_Realm_chainOf_43 {sc : Nat × (Nat → Int32)}  (b2 : Int32) (h : mH) (r : Int32) (h' : mH) (hf : f_Realm_chainOf_43  b2 h = some (r, h')) : G sc y_Realm_chainOf prog_5_method_13_code 5 (some .int) 1 21 43 [(2, .int b2)] [] h (some (.int r)) h' := by
  unfold f_Realm_chainOf_43 at hf
  refine g_iload_n (pc := 43) 0 dd_Realm_chainOf_36.2.2.2.1 rfl rfl ?_
  obtain ⟨rfl, rfl⟩ := ret2 hf
  exact g_iret (pc := 44) rfl dd_Realm_chainOf_36.2.2.2.2
def f_Realm_chainOf_7b (rec7 : Nat → Int32 → Int32 → Int32 → mH → Option (Int32 × mH)) (b0 : Nat) (b2 : Int32) (b3 : Int32) (b4 : Int32) (h : mH) : Option (Int32 × mH) :=
  bd1 (gI h b0 4 0) fun x1 =>
  if x1 ≤ b4 then
    f_Realm_chainOf_43  b2 h
  else
    bd1 (kC h b0 4) fun _ =>
    bd2 (f_Realm_hasLaw b0 b3 h) fun x7 h5 =>
    if x7 = 0 then
      f_Realm_chainOf_43  b2 h5
    else
      bd1 (gR h5 b0 4 10) fun x8 =>
      bd1 (aI h5 0 x8 b3) fun x10 =>
      rec7 b0 (b2 ||| ((1 : Int32) <<< (b3 &&& 31))) x10 (b4 + (1 : Int32)) h5
set_option maxRecDepth 20000 in
theorem t_Realm_chainOf_7b {sc : Nat × (Nat → Int32)} (rec7 : Nat → Int32 → Int32 → Int32 → mH → Option (Int32 × mH)) (hrec7 : ∀ (b0 : Nat) (b2 : Int32) (b3 : Int32) (b4 : Int32) (h : mH) (r : Int32) (h' : mH), rec7 b0 b2 b3 b4 h = some (r, h') → G sc y_Realm_chainOf prog_5_method_13_code 5 (some .int) 1 21 7 [(0, .ref b0), (2, .int b2), (3, .int b3), (4, .int b4)] [] h (some (.int r)) h') (b0 : Nat) (b2 : Int32) (b3 : Int32) (b4 : Int32) (h : mH) (r : Int32) (h' : mH) (hf : f_Realm_chainOf_7b rec7 b0 b2 b3 b4 h = some (r, h')) : G sc y_Realm_chainOf prog_5_method_13_code 5 (some .int) 1 21 7 [(0, .ref b0), (2, .int b2), (3, .int b3), (4, .int b4)] [] h (some (.int r)) h' := by
  unfold f_Realm_chainOf_7b at hf
  refine g_iload (pc := 7) 3 dd_Realm_chainOf_0.2.2.2.2.2.2.1 rfl ?_
  refine g_aload_n (pc := 9) 0 dd_Realm_chainOf_0.2.2.2.2.2.2.2.1 rfl rfl ?_
  obtain ⟨x1, e2, hf⟩ := bd1_e hf
  refine g_get (pc := 10) (ci := 4) (kk := 0) dd_Realm_chainOf_0.2.2.2.2.2.2.2.2.1 rfl in_Realm (by decide) wd_93 (gI_spec e2) ?_
  refine g_icmpge (pc := 13) 43 dd_Realm_chainOf_0.2.2.2.2.2.2.2.2.2.1 (by decide) (fun c13 => ?_) (fun c13 => ?_)
  · replace hf := (if_pos c13).symm.trans hf
    refine g_lv [1] rfl ?_
    exact t_Realm_chainOf_43  _ _ _ _  hf
  · replace hf := (if_neg c13).symm.trans hf
    refine g_aload_n (pc := 16) 0 dd_Realm_chainOf_0.2.2.2.2.2.2.2.2.2.2.1 rfl rfl ?_
    refine g_iload_n (pc := 17) 2 dd_Realm_chainOf_0.2.2.2.2.2.2.2.2.2.2.2.1 rfl rfl ?_
    obtain ⟨u4, e3, hf⟩ := bd1_e hf
    obtain ⟨x7, h5, e6, hf⟩ := bd2_e hf
    refine g_callV (pc := 18) (ci := 4) [.int b3] (site_of si_Realm_hasLaw (by decide) (by decide)) wd_536 wd_488 wd_489 dd_Realm_chainOf_0.2.2.2.2.2.2.2.2.2.2.2.2.1 rfl e3 (Nat.le_of_ble_eq_true rfl) (fun z => absurd z si_na_Realm_hasLaw) (fun z => absurd z si_na_Realm_hasLaw) (fun z => absurd z si_na_Realm_hasLaw) (c_Realm_hasLaw e6) rfl ?_
    refine g_st [.int x7] rfl ?_
    refine g_ifeq (pc := 21) 43 dd_Realm_chainOf_0.2.2.2.2.2.2.2.2.2.2.2.2.2.1 (by decide) (fun c12 => ?_) (fun c12 => ?_)
    · replace hf := (if_pos c12).symm.trans hf
      refine g_lv [1] rfl ?_
      exact t_Realm_chainOf_43  _ _ _ _  hf
    · replace hf := (if_neg c12).symm.trans hf
      refine g_iload_n (pc := 24) 1 dd_Realm_chainOf_0.2.2.2.2.2.2.2.2.2.2.2.2.2.2.1 rfl rfl ?_
      refine g_iconst (pc := 25) (1 : Int32) dd_Realm_chainOf_0.2.2.2.2.2.2.2.2.2.2.2.2.2.2.2.1 (by decide) ?_
      refine g_iload_n (pc := 26) 2 dd_Realm_chainOf_0.2.2.2.2.2.2.2.2.2.2.2.2.2.2.2.2.1 rfl rfl ?_
      refine g_ishl (pc := 27) dd_Realm_chainOf_0.2.2.2.2.2.2.2.2.2.2.2.2.2.2.2.2.2.1 ?_
      refine g_ior (pc := 28) dd_Realm_chainOf_0.2.2.2.2.2.2.2.2.2.2.2.2.2.2.2.2.2.2.1 ?_
      refine g_istore_n (pc := 29) [(2, .int (b2 ||| ((1 : Int32) <<< (b3 &&& 31)))), (0, .ref b0), (3, .int b3), (4, .int b4)] dd_Realm_chainOf_0.2.2.2.2.2.2.2.2.2.2.2.2.2.2.2.2.2.2.2.1 rfl (Nat.le_of_ble_eq_true rfl) rfl ?_
      refine g_aload_n (pc := 30) 1 dd_Realm_chainOf_0.2.2.2.2.2.2.2.2.2.2.2.2.2.2.2.2.2.2.2.2.1 rfl rfl ?_
      obtain ⟨x8, e9, hf⟩ := bd1_e hf
      refine g_get (pc := 31) (ci := 4) (kk := 10) dd_Realm_chainOf_0.2.2.2.2.2.2.2.2.2.2.2.2.2.2.2.2.2.2.2.2.2.1 rfl in_Realm (by decide) wd_127 (gR_spec e9) ?_
      refine g_iload_n (pc := 34) 2 dd_Realm_chainOf_0.2.2.2.2.2.2.2.2.2.2.2.2.2.2.2.2.2.2.2.2.2.2.1 rfl rfl ?_
      obtain ⟨x10, e11, hf⟩ := bd1_e hf
      refine g_iald (pc := 35) dd_Realm_chainOf_0.2.2.2.2.2.2.2.2.2.2.2.2.2.2.2.2.2.2.2.2.2.2.2 e11 ?_
      refine g_istore_n (pc := 36) [(3, .int x10), (2, .int (b2 ||| ((1 : Int32) <<< (b3 &&& 31)))), (0, .ref b0), (4, .int b4)] dd_Realm_chainOf_36.1 rfl (Nat.le_of_ble_eq_true rfl) rfl ?_
      refine g_iinc (pc := 37) 3 (b4 + (1 : Int32)) [(4, .int (b4 + (1 : Int32))), (3, .int x10), (2, .int (b2 ||| ((1 : Int32) <<< (b3 &&& 31)))), (0, .ref b0)] dd_Realm_chainOf_36.2.1 rfl rfl (Nat.le_of_ble_eq_true rfl) rfl ?_
      refine g_goto (pc := 40) 7 dd_Realm_chainOf_36.2.2.1 (by decide) ?_
      refine g_lv [3, 2, 1, 0] rfl ?_
      exact hrec7 _ _ _ _ _ _ _  hf
def f_Realm_chainOf_7  : Nat → Nat → Int32 → Int32 → Int32 → mH → Option (Int32 × mH)
  | 0 => fun _ _ _ _ _ => none
  | n + 1 => f_Realm_chainOf_7b  (f_Realm_chainOf_7  n)
theorem t_Realm_chainOf_7 {sc : Nat × (Nat → Int32)}  : ∀ (n : Nat) (b0 : Nat) (b2 : Int32) (b3 : Int32) (b4 : Int32) (h : mH) (r : Int32) (h' : mH) (hf : f_Realm_chainOf_7  n b0 b2 b3 b4 h = some (r, h')), G sc y_Realm_chainOf prog_5_method_13_code 5 (some .int) 1 21 7 [(0, .ref b0), (2, .int b2), (3, .int b3), (4, .int b4)] [] h (some (.int r)) h'
  | 0, _, _, _, _, _, _, _, hf => by cases hf
  | n + 1, _, _, _, _, _, _, _, hf => t_Realm_chainOf_7b  (f_Realm_chainOf_7  n) (t_Realm_chainOf_7  n) _ _ _ _ _ _ _ hf
def f_Realm_chainOf_0  (a0 : Nat) (a1 : Int32) (h : mH) : Option (Int32 × mH) :=
  f_Realm_chainOf_7  FU a0 (0 : Int32) a1 (0 : Int32) h
set_option maxRecDepth 20000 in
theorem t_Realm_chainOf_0 {sc : Nat × (Nat → Int32)}  (a0 : Nat) (a1 : Int32) (h : mH) (r : Int32) (h' : mH) (hf : f_Realm_chainOf_0  a0 a1 h = some (r, h')) : G sc y_Realm_chainOf prog_5_method_13_code 5 (some .int) 1 21 0 [(0, .ref a0), (1, .int a1)] [] h (some (.int r)) h' := by
  unfold f_Realm_chainOf_0 at hf
  refine g_iconst (pc := 0) (0 : Int32) dd_Realm_chainOf_0.1 (by decide) ?_
  refine g_istore_n (pc := 1) [(2, .int (0 : Int32)), (0, .ref a0), (1, .int a1)] dd_Realm_chainOf_0.2.1 rfl (Nat.le_of_ble_eq_true rfl) rfl ?_
  refine g_iload_n (pc := 2) 2 dd_Realm_chainOf_0.2.2.1 rfl rfl ?_
  refine g_istore_n (pc := 3) [(3, .int a1), (2, .int (0 : Int32)), (0, .ref a0), (1, .int a1)] dd_Realm_chainOf_0.2.2.2.1 rfl (Nat.le_of_ble_eq_true rfl) rfl ?_
  refine g_iconst (pc := 4) (0 : Int32) dd_Realm_chainOf_0.2.2.2.2.1 (by decide) ?_
  refine g_istore (pc := 5) [(4, .int (0 : Int32)), (3, .int a1), (2, .int (0 : Int32)), (0, .ref a0), (1, .int a1)] dd_Realm_chainOf_0.2.2.2.2.2.1 (Nat.le_of_ble_eq_true rfl) rfl ?_
  refine g_lv [3, 2, 1, 0] rfl ?_
  exact t_Realm_chainOf_7  FU _ _ _ _ _ _ _  hf
def f_Realm_chainOf (a0 : Nat) (a1 : Int32) (h : mH) : Option (Int32 × mH) := f_Realm_chainOf_0 a0 a1 h
theorem c_Realm_chainOf {sc : Nat × (Nat → Int32)} {a0 : Nat} {a1 : Int32} {h : mH} {r : Int32} {h' : mH} (hf : f_Realm_chainOf a0 a1 h = some (r, h')) : MM sc y_Realm_chainOf prog_5_method_13_code 5 (some .int) 1 21 [.ref a0, .int a1] h (some (.int r)) h' :=
  mm_of_G si_pn_Realm (Nat.le_of_ble_eq_true rfl) (t_Realm_chainOf_0 _ _ _ _ _ hf)
/-! Q law (II)I -/
set_option maxRecDepth 100000 in
theorem dd_Q_law_0 : (decode prog_1_method_7_code 0 = .ok (.aload_n 0, 1)) ∧ (decode prog_1_method_7_code 1 = .ok (.getfield 19, 3)) ∧ (decode prog_1_method_7_code 4 = .ok (.iload_n 1, 1)) ∧ (decode prog_1_method_7_code 5 = .ok (.invokevirtual 109, 3)) ∧ (decode prog_1_method_7_code 8 = .ok (.ifCond .ne 5, 3)) ∧ (decode prog_1_method_7_code 11 = .ok (.iconst (-1), 1)) ∧ (decode prog_1_method_7_code 12 = .ok (.ireturn, 1)) ∧ (decode prog_1_method_7_code 13 = .ok (.iload_n 2, 1)) ∧ (decode prog_1_method_7_code 14 = .ok (.tableswitch 110 0 6 #[42, 52, 62, 72, 82, 92, 101], 42)) ∧ (decode prog_1_method_7_code 56 = .ok (.aload_n 0, 1)) ∧ (decode prog_1_method_7_code 57 = .ok (.getfield 19, 3)) ∧ (decode prog_1_method_7_code 60 = .ok (.getfield 112, 3)) ∧ (decode prog_1_method_7_code 63 = .ok (.iload_n 1, 1)) ∧ (decode prog_1_method_7_code 64 = .ok (.iaload, 1)) ∧ (decode prog_1_method_7_code 65 = .ok (.ireturn, 1)) ∧ (decode prog_1_method_7_code 66 = .ok (.aload_n 0, 1)) ∧ (decode prog_1_method_7_code 67 = .ok (.getfield 19, 3)) ∧ (decode prog_1_method_7_code 70 = .ok (.getfield 116, 3)) ∧ (decode prog_1_method_7_code 73 = .ok (.iload_n 1, 1)) ∧ (decode prog_1_method_7_code 74 = .ok (.iaload, 1)) ∧ (decode prog_1_method_7_code 75 = .ok (.ireturn, 1)) ∧ (decode prog_1_method_7_code 76 = .ok (.aload_n 0, 1)) ∧ (decode prog_1_method_7_code 77 = .ok (.getfield 19, 3)) ∧ (decode prog_1_method_7_code 80 = .ok (.getfield 119, 3)) := by
  have h : List.drop 0 prog_1_method_7_code.data.toList = 0x2a :: _ := rfl
  refine ⟨zq_k_n 42 h rfl (zq_o_42 _), ?_⟩
  replace h := zq_nx1 (q := 1) h rfl
  refine ⟨zq_k_u2 180 (fun z => .getfield z) 19 h rfl (zq_o_180 _) (by decide +kernel), ?_⟩
  replace h := zq_nx3 (q := 4) h rfl
  refine ⟨zq_k_n 27 h rfl (zq_o_27 _), ?_⟩
  replace h := zq_nx1 (q := 5) h rfl
  refine ⟨zq_k_u2 182 (fun z => .invokevirtual z) 109 h rfl (zq_o_182 _) (by decide +kernel), ?_⟩
  replace h := zq_nx3 (q := 8) h rfl
  refine ⟨zq_k_s2 154 (fun z => .ifCond .ne z) 5 h rfl (zq_o_154 _) (by decide +kernel), ?_⟩
  replace h := zq_nx3 (q := 11) h rfl
  refine ⟨zq_k_n 2 h rfl (zq_o_2 _), ?_⟩
  replace h := zq_nx1 (q := 12) h rfl
  refine ⟨zq_k_n 172 h rfl (zq_o_172 _), ?_⟩
  replace h := zq_nx1 (q := 13) h rfl
  refine ⟨zq_k_n 28 h rfl (zq_o_28 _), ?_⟩
  replace h := zq_nx1 (q := 14) h rfl
  refine ⟨by decide +kernel, ?_⟩
  have h : List.drop 56 prog_1_method_7_code.data.toList = 0x2a :: _ := rfl
  refine ⟨zq_k_n 42 h rfl (zq_o_42 _), ?_⟩
  replace h := zq_nx1 (q := 57) h rfl
  refine ⟨zq_k_u2 180 (fun z => .getfield z) 19 h rfl (zq_o_180 _) (by decide +kernel), ?_⟩
  replace h := zq_nx3 (q := 60) h rfl
  refine ⟨zq_k_u2 180 (fun z => .getfield z) 112 h rfl (zq_o_180 _) (by decide +kernel), ?_⟩
  replace h := zq_nx3 (q := 63) h rfl
  refine ⟨zq_k_n 27 h rfl (zq_o_27 _), ?_⟩
  replace h := zq_nx1 (q := 64) h rfl
  refine ⟨zq_k_n 46 h rfl (zq_o_46 _), ?_⟩
  replace h := zq_nx1 (q := 65) h rfl
  refine ⟨zq_k_n 172 h rfl (zq_o_172 _), ?_⟩
  replace h := zq_nx1 (q := 66) h rfl
  refine ⟨zq_k_n 42 h rfl (zq_o_42 _), ?_⟩
  replace h := zq_nx1 (q := 67) h rfl
  refine ⟨zq_k_u2 180 (fun z => .getfield z) 19 h rfl (zq_o_180 _) (by decide +kernel), ?_⟩
  replace h := zq_nx3 (q := 70) h rfl
  refine ⟨zq_k_u2 180 (fun z => .getfield z) 116 h rfl (zq_o_180 _) (by decide +kernel), ?_⟩
  replace h := zq_nx3 (q := 73) h rfl
  refine ⟨zq_k_n 27 h rfl (zq_o_27 _), ?_⟩
  replace h := zq_nx1 (q := 74) h rfl
  refine ⟨zq_k_n 46 h rfl (zq_o_46 _), ?_⟩
  replace h := zq_nx1 (q := 75) h rfl
  refine ⟨zq_k_n 172 h rfl (zq_o_172 _), ?_⟩
  replace h := zq_nx1 (q := 76) h rfl
  refine ⟨zq_k_n 42 h rfl (zq_o_42 _), ?_⟩
  replace h := zq_nx1 (q := 77) h rfl
  refine ⟨zq_k_u2 180 (fun z => .getfield z) 19 h rfl (zq_o_180 _) (by decide +kernel), ?_⟩
  replace h := zq_nx3 (q := 80) h rfl
  exact zq_k_u2 180 (fun z => .getfield z) 119 h rfl (zq_o_180 _) (by decide +kernel)
set_option maxRecDepth 100000 in
theorem dd_Q_law_83 : (decode prog_1_method_7_code 83 = .ok (.iload_n 1, 1)) ∧ (decode prog_1_method_7_code 84 = .ok (.iaload, 1)) ∧ (decode prog_1_method_7_code 85 = .ok (.ireturn, 1)) ∧ (decode prog_1_method_7_code 86 = .ok (.aload_n 0, 1)) ∧ (decode prog_1_method_7_code 87 = .ok (.getfield 19, 3)) ∧ (decode prog_1_method_7_code 90 = .ok (.getfield 122, 3)) ∧ (decode prog_1_method_7_code 93 = .ok (.iload_n 1, 1)) ∧ (decode prog_1_method_7_code 94 = .ok (.iaload, 1)) ∧ (decode prog_1_method_7_code 95 = .ok (.ireturn, 1)) ∧ (decode prog_1_method_7_code 96 = .ok (.aload_n 0, 1)) ∧ (decode prog_1_method_7_code 97 = .ok (.getfield 19, 3)) ∧ (decode prog_1_method_7_code 100 = .ok (.getfield 125, 3)) ∧ (decode prog_1_method_7_code 103 = .ok (.iload_n 1, 1)) ∧ (decode prog_1_method_7_code 104 = .ok (.iaload, 1)) ∧ (decode prog_1_method_7_code 105 = .ok (.ireturn, 1)) ∧ (decode prog_1_method_7_code 106 = .ok (.aload_n 0, 1)) ∧ (decode prog_1_method_7_code 107 = .ok (.getfield 19, 3)) ∧ (decode prog_1_method_7_code 110 = .ok (.iload_n 1, 1)) ∧ (decode prog_1_method_7_code 111 = .ok (.invokevirtual 128, 3)) ∧ (decode prog_1_method_7_code 114 = .ok (.ireturn, 1)) ∧ (decode prog_1_method_7_code 115 = .ok (.aload_n 0, 1)) ∧ (decode prog_1_method_7_code 116 = .ok (.getfield 19, 3)) ∧ (decode prog_1_method_7_code 119 = .ok (.iload_n 1, 1)) ∧ (decode prog_1_method_7_code 120 = .ok (.invokevirtual 132, 3)) := by
  have h : List.drop 83 prog_1_method_7_code.data.toList = 0x1b :: _ := rfl
  refine ⟨zq_k_n 27 h rfl (zq_o_27 _), ?_⟩
  replace h := zq_nx1 (q := 84) h rfl
  refine ⟨zq_k_n 46 h rfl (zq_o_46 _), ?_⟩
  replace h := zq_nx1 (q := 85) h rfl
  refine ⟨zq_k_n 172 h rfl (zq_o_172 _), ?_⟩
  replace h := zq_nx1 (q := 86) h rfl
  refine ⟨zq_k_n 42 h rfl (zq_o_42 _), ?_⟩
  replace h := zq_nx1 (q := 87) h rfl
  refine ⟨zq_k_u2 180 (fun z => .getfield z) 19 h rfl (zq_o_180 _) (by decide +kernel), ?_⟩
  replace h := zq_nx3 (q := 90) h rfl
  refine ⟨zq_k_u2 180 (fun z => .getfield z) 122 h rfl (zq_o_180 _) (by decide +kernel), ?_⟩
  replace h := zq_nx3 (q := 93) h rfl
  refine ⟨zq_k_n 27 h rfl (zq_o_27 _), ?_⟩
  replace h := zq_nx1 (q := 94) h rfl
  refine ⟨zq_k_n 46 h rfl (zq_o_46 _), ?_⟩
  replace h := zq_nx1 (q := 95) h rfl
  refine ⟨zq_k_n 172 h rfl (zq_o_172 _), ?_⟩
  replace h := zq_nx1 (q := 96) h rfl
  refine ⟨zq_k_n 42 h rfl (zq_o_42 _), ?_⟩
  replace h := zq_nx1 (q := 97) h rfl
  refine ⟨zq_k_u2 180 (fun z => .getfield z) 19 h rfl (zq_o_180 _) (by decide +kernel), ?_⟩
  replace h := zq_nx3 (q := 100) h rfl
  refine ⟨zq_k_u2 180 (fun z => .getfield z) 125 h rfl (zq_o_180 _) (by decide +kernel), ?_⟩
  replace h := zq_nx3 (q := 103) h rfl
  refine ⟨zq_k_n 27 h rfl (zq_o_27 _), ?_⟩
  replace h := zq_nx1 (q := 104) h rfl
  refine ⟨zq_k_n 46 h rfl (zq_o_46 _), ?_⟩
  replace h := zq_nx1 (q := 105) h rfl
  refine ⟨zq_k_n 172 h rfl (zq_o_172 _), ?_⟩
  replace h := zq_nx1 (q := 106) h rfl
  refine ⟨zq_k_n 42 h rfl (zq_o_42 _), ?_⟩
  replace h := zq_nx1 (q := 107) h rfl
  refine ⟨zq_k_u2 180 (fun z => .getfield z) 19 h rfl (zq_o_180 _) (by decide +kernel), ?_⟩
  replace h := zq_nx3 (q := 110) h rfl
  refine ⟨zq_k_n 27 h rfl (zq_o_27 _), ?_⟩
  replace h := zq_nx1 (q := 111) h rfl
  refine ⟨zq_k_u2 182 (fun z => .invokevirtual z) 128 h rfl (zq_o_182 _) (by decide +kernel), ?_⟩
  replace h := zq_nx3 (q := 114) h rfl
  refine ⟨zq_k_n 172 h rfl (zq_o_172 _), ?_⟩
  replace h := zq_nx1 (q := 115) h rfl
  refine ⟨zq_k_n 42 h rfl (zq_o_42 _), ?_⟩
  replace h := zq_nx1 (q := 116) h rfl
  refine ⟨zq_k_u2 180 (fun z => .getfield z) 19 h rfl (zq_o_180 _) (by decide +kernel), ?_⟩
  replace h := zq_nx3 (q := 119) h rfl
  refine ⟨zq_k_n 27 h rfl (zq_o_27 _), ?_⟩
  replace h := zq_nx1 (q := 120) h rfl
  exact zq_k_u2 182 (fun z => .invokevirtual z) 132 h rfl (zq_o_182 _) (by decide +kernel)
set_option maxRecDepth 100000 in
theorem dd_Q_law_123 : (decode prog_1_method_7_code 123 = .ok (.ireturn, 1)) ∧ (decode prog_1_method_7_code 124 = .ok (.iconst (-1), 1)) ∧ (decode prog_1_method_7_code 125 = .ok (.ireturn, 1)) := by
  have h : List.drop 123 prog_1_method_7_code.data.toList = 0xac :: _ := rfl
  refine ⟨zq_k_n 172 h rfl (zq_o_172 _), ?_⟩
  replace h := zq_nx1 (q := 124) h rfl
  refine ⟨zq_k_n 2 h rfl (zq_o_2 _), ?_⟩
  replace h := zq_nx1 (q := 125) h rfl
  exact zq_k_n 172 h rfl (zq_o_172 _)
def f_Q_law_0  (a0 : Nat) (a1 : Int32) (a2 : Int32) (h : mH) : Option (Int32 × mH) :=
  bd1 (gR h a0 0 1) fun x1 =>
  bd1 (kC h x1 4) fun _ =>
  bd2 (f_Realm_hasLaw x1 a1 h) fun x7 h5 =>
  if x7 = 0 then
    some (((-1) : Int32), h5)
  else
    if a2 = (0 : Int32) then
      bd1 (gR h5 a0 0 1) fun x9 =>
      bd1 (gR h5 x9 4 6) fun x11 =>
      bd1 (aI h5 0 x11 a1) fun x13 =>
      some (x13, h5)
    else
    if a2 = (1 : Int32) then
      bd1 (gR h5 a0 0 1) fun x16 =>
      bd1 (gR h5 x16 4 7) fun x18 =>
      bd1 (aI h5 0 x18 a1) fun x20 =>
      some (x20, h5)
    else
    if a2 = (2 : Int32) then
      bd1 (gR h5 a0 0 1) fun x23 =>
      bd1 (gR h5 x23 4 8) fun x25 =>
      bd1 (aI h5 0 x25 a1) fun x27 =>
      some (x27, h5)
    else
    if a2 = (3 : Int32) then
      bd1 (gR h5 a0 0 1) fun x30 =>
      bd1 (gR h5 x30 4 9) fun x32 =>
      bd1 (aI h5 0 x32 a1) fun x34 =>
      some (x34, h5)
    else
    if a2 = (4 : Int32) then
      bd1 (gR h5 a0 0 1) fun x37 =>
      bd1 (gR h5 x37 4 10) fun x39 =>
      bd1 (aI h5 0 x39 a1) fun x41 =>
      some (x41, h5)
    else
    if a2 = (5 : Int32) then
      bd1 (gR h5 a0 0 1) fun x44 =>
      bd1 (kC h5 x44 4) fun _ =>
      bd2 (f_Realm_needOf x44 a1 h5) fun x50 h48 =>
      some (x50, h48)
    else
    if a2 = (6 : Int32) then
      bd1 (gR h5 a0 0 1) fun x52 =>
      bd1 (kC h5 x52 4) fun _ =>
      bd2 (f_Realm_chainOf x52 a1 h5) fun x58 h56 =>
      some (x58, h56)
    else
    some (((-1) : Int32), h5)
set_option maxRecDepth 20000 in
theorem t_Q_law_0 {sc : Nat × (Nat → Int32)}  (a0 : Nat) (a1 : Int32) (a2 : Int32) (h : mH) (r : Int32) (h' : mH) (hf : f_Q_law_0  a0 a1 a2 h = some (r, h')) : G sc y_Q_law prog_1_method_7_code 3 (some .int) 2 45 0 [(0, .ref a0), (1, .int a1), (2, .int a2)] [] h (some (.int r)) h' := by
  unfold f_Q_law_0 at hf
  refine g_aload_n (pc := 0) 0 dd_Q_law_0.1 rfl rfl ?_
  obtain ⟨x1, e2, hf⟩ := bd1_e hf
  refine g_get (pc := 1) (ci := 0) (kk := 1) dd_Q_law_0.2.1 rfl in_Q (by decide) wd_297 (gR_spec e2) ?_
  refine g_iload_n (pc := 4) 1 dd_Q_law_0.2.2.1 rfl rfl ?_
  obtain ⟨u4, e3, hf⟩ := bd1_e hf
  obtain ⟨x7, h5, e6, hf⟩ := bd2_e hf
  refine g_callV (pc := 5) (ci := 4) [.int a1] (site_of si_Realm_hasLaw (by decide) (by decide)) wd_519 wd_488 wd_489 dd_Q_law_0.2.2.2.1 rfl e3 (Nat.le_of_ble_eq_true rfl) (fun z => absurd z si_na_Realm_hasLaw) (fun z => absurd z si_na_Realm_hasLaw) (fun z => absurd z si_na_Realm_hasLaw) (c_Realm_hasLaw e6) rfl ?_
  refine g_st [.int x7] rfl ?_
  refine g_ifne (pc := 8) 13 dd_Q_law_0.2.2.2.2.1 (by decide) (fun c59 => ?_) (fun c59 => ?_)
  · replace hf := (if_neg c59).symm.trans hf
    refine g_iload_n (pc := 13) 2 dd_Q_law_0.2.2.2.2.2.2.2.1 rfl rfl ?_
    by_cases c8 : a2 = (0 : Int32)
    · replace hf := (if_pos c8).symm.trans hf
      refine g_tabIn (pc := 14) 56 (0 : Int32) dd_Q_law_0.2.2.2.2.2.2.2.2.1 c8 (by decide) (by decide) rfl (by decide) ?_
      refine g_aload_n (pc := 56) 0 dd_Q_law_0.2.2.2.2.2.2.2.2.2.1 rfl rfl ?_
      obtain ⟨x9, e10, hf⟩ := bd1_e hf
      refine g_get (pc := 57) (ci := 0) (kk := 1) dd_Q_law_0.2.2.2.2.2.2.2.2.2.2.1 rfl in_Q (by decide) wd_297 (gR_spec e10) ?_
      obtain ⟨x11, e12, hf⟩ := bd1_e hf
      refine g_get (pc := 60) (ci := 4) (kk := 6) dd_Q_law_0.2.2.2.2.2.2.2.2.2.2.2.1 rfl in_Realm (by decide) wd_115 (gR_spec e12) ?_
      refine g_iload_n (pc := 63) 1 dd_Q_law_0.2.2.2.2.2.2.2.2.2.2.2.2.1 rfl rfl ?_
      obtain ⟨x13, e14, hf⟩ := bd1_e hf
      refine g_iald (pc := 64) dd_Q_law_0.2.2.2.2.2.2.2.2.2.2.2.2.2.1 e14 ?_
      obtain ⟨rfl, rfl⟩ := ret2 hf
      exact g_iret (pc := 65) rfl dd_Q_law_0.2.2.2.2.2.2.2.2.2.2.2.2.2.2.1
    replace hf := (if_neg c8).symm.trans hf
    by_cases c15 : a2 = (1 : Int32)
    · replace hf := (if_pos c15).symm.trans hf
      refine g_tabIn (pc := 14) 66 (1 : Int32) dd_Q_law_0.2.2.2.2.2.2.2.2.1 c15 (by decide) (by decide) rfl (by decide) ?_
      refine g_aload_n (pc := 66) 0 dd_Q_law_0.2.2.2.2.2.2.2.2.2.2.2.2.2.2.2.1 rfl rfl ?_
      obtain ⟨x16, e17, hf⟩ := bd1_e hf
      refine g_get (pc := 67) (ci := 0) (kk := 1) dd_Q_law_0.2.2.2.2.2.2.2.2.2.2.2.2.2.2.2.2.1 rfl in_Q (by decide) wd_297 (gR_spec e17) ?_
      obtain ⟨x18, e19, hf⟩ := bd1_e hf
      refine g_get (pc := 70) (ci := 4) (kk := 7) dd_Q_law_0.2.2.2.2.2.2.2.2.2.2.2.2.2.2.2.2.2.1 rfl in_Realm (by decide) wd_119 (gR_spec e19) ?_
      refine g_iload_n (pc := 73) 1 dd_Q_law_0.2.2.2.2.2.2.2.2.2.2.2.2.2.2.2.2.2.2.1 rfl rfl ?_
      obtain ⟨x20, e21, hf⟩ := bd1_e hf
      refine g_iald (pc := 74) dd_Q_law_0.2.2.2.2.2.2.2.2.2.2.2.2.2.2.2.2.2.2.2.1 e21 ?_
      obtain ⟨rfl, rfl⟩ := ret2 hf
      exact g_iret (pc := 75) rfl dd_Q_law_0.2.2.2.2.2.2.2.2.2.2.2.2.2.2.2.2.2.2.2.2.1
    replace hf := (if_neg c15).symm.trans hf
    by_cases c22 : a2 = (2 : Int32)
    · replace hf := (if_pos c22).symm.trans hf
      refine g_tabIn (pc := 14) 76 (2 : Int32) dd_Q_law_0.2.2.2.2.2.2.2.2.1 c22 (by decide) (by decide) rfl (by decide) ?_
      refine g_aload_n (pc := 76) 0 dd_Q_law_0.2.2.2.2.2.2.2.2.2.2.2.2.2.2.2.2.2.2.2.2.2.1 rfl rfl ?_
      obtain ⟨x23, e24, hf⟩ := bd1_e hf
      refine g_get (pc := 77) (ci := 0) (kk := 1) dd_Q_law_0.2.2.2.2.2.2.2.2.2.2.2.2.2.2.2.2.2.2.2.2.2.2.1 rfl in_Q (by decide) wd_297 (gR_spec e24) ?_
      obtain ⟨x25, e26, hf⟩ := bd1_e hf
      refine g_get (pc := 80) (ci := 4) (kk := 8) dd_Q_law_0.2.2.2.2.2.2.2.2.2.2.2.2.2.2.2.2.2.2.2.2.2.2.2 rfl in_Realm (by decide) wd_123 (gR_spec e26) ?_
      refine g_iload_n (pc := 83) 1 dd_Q_law_83.1 rfl rfl ?_
      obtain ⟨x27, e28, hf⟩ := bd1_e hf
      refine g_iald (pc := 84) dd_Q_law_83.2.1 e28 ?_
      obtain ⟨rfl, rfl⟩ := ret2 hf
      exact g_iret (pc := 85) rfl dd_Q_law_83.2.2.1
    replace hf := (if_neg c22).symm.trans hf
    by_cases c29 : a2 = (3 : Int32)
    · replace hf := (if_pos c29).symm.trans hf
      refine g_tabIn (pc := 14) 86 (3 : Int32) dd_Q_law_0.2.2.2.2.2.2.2.2.1 c29 (by decide) (by decide) rfl (by decide) ?_
      refine g_aload_n (pc := 86) 0 dd_Q_law_83.2.2.2.1 rfl rfl ?_
      obtain ⟨x30, e31, hf⟩ := bd1_e hf
      refine g_get (pc := 87) (ci := 0) (kk := 1) dd_Q_law_83.2.2.2.2.1 rfl in_Q (by decide) wd_297 (gR_spec e31) ?_
      obtain ⟨x32, e33, hf⟩ := bd1_e hf
      refine g_get (pc := 90) (ci := 4) (kk := 9) dd_Q_law_83.2.2.2.2.2.1 rfl in_Realm (by decide) wd_126 (gR_spec e33) ?_
      refine g_iload_n (pc := 93) 1 dd_Q_law_83.2.2.2.2.2.2.1 rfl rfl ?_
      obtain ⟨x34, e35, hf⟩ := bd1_e hf
      refine g_iald (pc := 94) dd_Q_law_83.2.2.2.2.2.2.2.1 e35 ?_
      obtain ⟨rfl, rfl⟩ := ret2 hf
      exact g_iret (pc := 95) rfl dd_Q_law_83.2.2.2.2.2.2.2.2.1
    replace hf := (if_neg c29).symm.trans hf
    by_cases c36 : a2 = (4 : Int32)
    · replace hf := (if_pos c36).symm.trans hf
      refine g_tabIn (pc := 14) 96 (4 : Int32) dd_Q_law_0.2.2.2.2.2.2.2.2.1 c36 (by decide) (by decide) rfl (by decide) ?_
      refine g_aload_n (pc := 96) 0 dd_Q_law_83.2.2.2.2.2.2.2.2.2.1 rfl rfl ?_
      obtain ⟨x37, e38, hf⟩ := bd1_e hf
      refine g_get (pc := 97) (ci := 0) (kk := 1) dd_Q_law_83.2.2.2.2.2.2.2.2.2.2.1 rfl in_Q (by decide) wd_297 (gR_spec e38) ?_
      obtain ⟨x39, e40, hf⟩ := bd1_e hf
      refine g_get (pc := 100) (ci := 4) (kk := 10) dd_Q_law_83.2.2.2.2.2.2.2.2.2.2.2.1 rfl in_Realm (by decide) wd_129 (gR_spec e40) ?_
      refine g_iload_n (pc := 103) 1 dd_Q_law_83.2.2.2.2.2.2.2.2.2.2.2.2.1 rfl rfl ?_
      obtain ⟨x41, e42, hf⟩ := bd1_e hf
      refine g_iald (pc := 104) dd_Q_law_83.2.2.2.2.2.2.2.2.2.2.2.2.2.1 e42 ?_
      obtain ⟨rfl, rfl⟩ := ret2 hf
      exact g_iret (pc := 105) rfl dd_Q_law_83.2.2.2.2.2.2.2.2.2.2.2.2.2.2.1
    replace hf := (if_neg c36).symm.trans hf
    by_cases c43 : a2 = (5 : Int32)
    · replace hf := (if_pos c43).symm.trans hf
      refine g_tabIn (pc := 14) 106 (5 : Int32) dd_Q_law_0.2.2.2.2.2.2.2.2.1 c43 (by decide) (by decide) rfl (by decide) ?_
      refine g_aload_n (pc := 106) 0 dd_Q_law_83.2.2.2.2.2.2.2.2.2.2.2.2.2.2.2.1 rfl rfl ?_
      obtain ⟨x44, e45, hf⟩ := bd1_e hf
      refine g_get (pc := 107) (ci := 0) (kk := 1) dd_Q_law_83.2.2.2.2.2.2.2.2.2.2.2.2.2.2.2.2.1 rfl in_Q (by decide) wd_297 (gR_spec e45) ?_
      refine g_iload_n (pc := 110) 1 dd_Q_law_83.2.2.2.2.2.2.2.2.2.2.2.2.2.2.2.2.2.1 rfl rfl ?_
      obtain ⟨u47, e46, hf⟩ := bd1_e hf
      obtain ⟨x50, h48, e49, hf⟩ := bd2_e hf
      refine g_callV (pc := 111) (ci := 4) [.int a1] (site_of si_Realm_needOf (by decide) (by decide)) wd_520 wd_521 wd_522 dd_Q_law_83.2.2.2.2.2.2.2.2.2.2.2.2.2.2.2.2.2.2.1 rfl e46 (Nat.le_of_ble_eq_true rfl) (fun z => absurd z si_na_Realm_needOf) (fun z => absurd z si_na_Realm_needOf) (fun z => absurd z si_na_Realm_needOf) (c_Realm_needOf e49) rfl ?_
      refine g_st [.int x50] rfl ?_
      obtain ⟨rfl, rfl⟩ := ret2 hf
      exact g_iret (pc := 114) rfl dd_Q_law_83.2.2.2.2.2.2.2.2.2.2.2.2.2.2.2.2.2.2.2.1
    replace hf := (if_neg c43).symm.trans hf
    by_cases c51 : a2 = (6 : Int32)
    · replace hf := (if_pos c51).symm.trans hf
      refine g_tabIn (pc := 14) 115 (6 : Int32) dd_Q_law_0.2.2.2.2.2.2.2.2.1 c51 (by decide) (by decide) rfl (by decide) ?_
      refine g_aload_n (pc := 115) 0 dd_Q_law_83.2.2.2.2.2.2.2.2.2.2.2.2.2.2.2.2.2.2.2.2.1 rfl rfl ?_
      obtain ⟨x52, e53, hf⟩ := bd1_e hf
      refine g_get (pc := 116) (ci := 0) (kk := 1) dd_Q_law_83.2.2.2.2.2.2.2.2.2.2.2.2.2.2.2.2.2.2.2.2.2.1 rfl in_Q (by decide) wd_297 (gR_spec e53) ?_
      refine g_iload_n (pc := 119) 1 dd_Q_law_83.2.2.2.2.2.2.2.2.2.2.2.2.2.2.2.2.2.2.2.2.2.2.1 rfl rfl ?_
      obtain ⟨u55, e54, hf⟩ := bd1_e hf
      obtain ⟨x58, h56, e57, hf⟩ := bd2_e hf
      refine g_callV (pc := 120) (ci := 4) [.int a1] (site_of si_Realm_chainOf (by decide) (by decide)) wd_532 wd_533 wd_534 dd_Q_law_83.2.2.2.2.2.2.2.2.2.2.2.2.2.2.2.2.2.2.2.2.2.2.2 rfl e54 (Nat.le_of_ble_eq_true rfl) (fun z => absurd z si_na_Realm_chainOf) (fun z => absurd z si_na_Realm_chainOf) (fun z => absurd z si_na_Realm_chainOf) (c_Realm_chainOf e57) rfl ?_
      refine g_st [.int x58] rfl ?_
      obtain ⟨rfl, rfl⟩ := ret2 hf
      exact g_iret (pc := 123) rfl dd_Q_law_123.1
    replace hf := (if_neg c51).symm.trans hf
    refine g_tabOut (pc := 14) 124 7 dd_Q_law_0.2.2.2.2.2.2.2.2.1 (by decide) (fun i hi => ?_) (by decide) ?_
    · rcases (show i = 0 ∨ i = 1 ∨ i = 2 ∨ i = 3 ∨ i = 4 ∨ i = 5 ∨ i = 6 by omega) with rfl | rfl | rfl | rfl | rfl | rfl | rfl
      · exact c8
      · exact c15
      · exact c22
      · exact c29
      · exact c36
      · exact c43
      · exact c51
    refine g_iconst (pc := 124) ((-1) : Int32) dd_Q_law_123.2.1 (by decide) ?_
    obtain ⟨rfl, rfl⟩ := ret2 hf
    exact g_iret (pc := 125) rfl dd_Q_law_123.2.2
  · replace hf := (if_pos c59).symm.trans hf
    refine g_iconst (pc := 11) ((-1) : Int32) dd_Q_law_0.2.2.2.2.2.1 (by decide) ?_
    obtain ⟨rfl, rfl⟩ := ret2 hf
    exact g_iret (pc := 12) rfl dd_Q_law_0.2.2.2.2.2.2.1
def f_Q_law (a0 : Nat) (a1 : Int32) (a2 : Int32) (h : mH) : Option (Int32 × mH) := f_Q_law_0 a0 a1 a2 h
theorem c_Q_law {sc : Nat × (Nat → Int32)} {a0 : Nat} {a1 : Int32} {a2 : Int32} {h : mH} {r : Int32} {h' : mH} (hf : f_Q_law a0 a1 a2 h = some (r, h')) : MM sc y_Q_law prog_1_method_7_code 3 (some .int) 2 45 [.ref a0, .int a1, .int a2] h (some (.int r)) h' :=
  mm_of_G si_pn_Q (Nat.le_of_ble_eq_true rfl) (t_Q_law_0 _ _ _ _ _ _ hf)
/-! Realm brokenByOne (I)I -/
set_option maxRecDepth 100000 in
theorem dd_Realm_brokenByOne_0 : (decode prog_5_method_8_code 0 = .ok (.iconst 0, 1)) ∧ (decode prog_5_method_8_code 1 = .ok (.istore_n 2, 1)) ∧ (decode prog_5_method_8_code 2 = .ok (.iconst 0, 1)) ∧ (decode prog_5_method_8_code 3 = .ok (.istore_n 3, 1)) ∧ (decode prog_5_method_8_code 4 = .ok (.iload_n 3, 1)) ∧ (decode prog_5_method_8_code 5 = .ok (.aload_n 0, 1)) ∧ (decode prog_5_method_8_code 6 = .ok (.getfield 55, 3)) ∧ (decode prog_5_method_8_code 9 = .ok (.if_icmp .ge 22, 3)) ∧ (decode prog_5_method_8_code 12 = .ok (.iload_n 2, 1)) ∧ (decode prog_5_method_8_code 13 = .ok (.aload_n 0, 1)) ∧ (decode prog_5_method_8_code 14 = .ok (.getfield 45, 3)) ∧ (decode prog_5_method_8_code 17 = .ok (.iload_n 1, 1)) ∧ (decode prog_5_method_8_code 18 = .ok (.iconst 5, 1)) ∧ (decode prog_5_method_8_code 19 = .ok (.imul, 1)) ∧ (decode prog_5_method_8_code 20 = .ok (.iload_n 3, 1)) ∧ (decode prog_5_method_8_code 21 = .ok (.iadd, 1)) ∧ (decode prog_5_method_8_code 22 = .ok (.iaload, 1)) ∧ (decode prog_5_method_8_code 23 = .ok (.iadd, 1)) ∧ (decode prog_5_method_8_code 24 = .ok (.istore_n 2, 1)) ∧ (decode prog_5_method_8_code 25 = .ok (.iinc 3 1, 3)) ∧ (decode prog_5_method_8_code 28 = .ok (.goto (-24), 3)) ∧ (decode prog_5_method_8_code 31 = .ok (.iload_n 2, 1)) ∧ (decode prog_5_method_8_code 32 = .ok (.ireturn, 1)) := by
  have h : List.drop 0 prog_5_method_8_code.data.toList = 0x03 :: _ := rfl
  refine ⟨zq_k_n 3 h rfl (zq_o_3 _), ?_⟩
  replace h := zq_nx1 (q := 1) h rfl
  refine ⟨zq_k_n 61 h rfl (zq_o_61 _), ?_⟩
  replace h := zq_nx1 (q := 2) h rfl
  refine ⟨zq_k_n 3 h rfl (zq_o_3 _), ?_⟩
  replace h := zq_nx1 (q := 3) h rfl
  refine ⟨zq_k_n 62 h rfl (zq_o_62 _), ?_⟩
  replace h := zq_nx1 (q := 4) h rfl
  refine ⟨zq_k_n 29 h rfl (zq_o_29 _), ?_⟩
  replace h := zq_nx1 (q := 5) h rfl
  refine ⟨zq_k_n 42 h rfl (zq_o_42 _), ?_⟩
  replace h := zq_nx1 (q := 6) h rfl
  refine ⟨zq_k_u2 180 (fun z => .getfield z) 55 h rfl (zq_o_180 _) (by decide +kernel), ?_⟩
  replace h := zq_nx3 (q := 9) h rfl
  refine ⟨zq_k_s2 162 (fun z => .if_icmp .ge z) 22 h rfl (zq_o_162 _) (by decide +kernel), ?_⟩
  replace h := zq_nx3 (q := 12) h rfl
  refine ⟨zq_k_n 28 h rfl (zq_o_28 _), ?_⟩
  replace h := zq_nx1 (q := 13) h rfl
  refine ⟨zq_k_n 42 h rfl (zq_o_42 _), ?_⟩
  replace h := zq_nx1 (q := 14) h rfl
  refine ⟨zq_k_u2 180 (fun z => .getfield z) 45 h rfl (zq_o_180 _) (by decide +kernel), ?_⟩
  replace h := zq_nx3 (q := 17) h rfl
  refine ⟨zq_k_n 27 h rfl (zq_o_27 _), ?_⟩
  replace h := zq_nx1 (q := 18) h rfl
  refine ⟨zq_k_n 8 h rfl (zq_o_8 _), ?_⟩
  replace h := zq_nx1 (q := 19) h rfl
  refine ⟨zq_k_n 104 h rfl (zq_o_104 _), ?_⟩
  replace h := zq_nx1 (q := 20) h rfl
  refine ⟨zq_k_n 29 h rfl (zq_o_29 _), ?_⟩
  replace h := zq_nx1 (q := 21) h rfl
  refine ⟨zq_k_n 96 h rfl (zq_o_96 _), ?_⟩
  replace h := zq_nx1 (q := 22) h rfl
  refine ⟨zq_k_n 46 h rfl (zq_o_46 _), ?_⟩
  replace h := zq_nx1 (q := 23) h rfl
  refine ⟨zq_k_n 96 h rfl (zq_o_96 _), ?_⟩
  replace h := zq_nx1 (q := 24) h rfl
  refine ⟨zq_k_n 61 h rfl (zq_o_61 _), ?_⟩
  replace h := zq_nx1 (q := 25) h rfl
  refine ⟨zq_k_iinc 3 1 h rfl (zq_o_132 _) (by decide +kernel) (by decide +kernel), ?_⟩
  replace h := zq_nx3 (q := 28) h rfl
  refine ⟨zq_k_s2 167 (fun z => .goto z) (-24) h rfl (zq_o_167 _) (by decide +kernel), ?_⟩
  replace h := zq_nx3 (q := 31) h rfl
  refine ⟨zq_k_n 28 h rfl (zq_o_28 _), ?_⟩
  replace h := zq_nx1 (q := 32) h rfl
  exact zq_k_n 172 h rfl (zq_o_172 _)
def f_Realm_brokenByOne_4b (rec4 : Nat → Int32 → Int32 → Int32 → mH → Option (Int32 × mH)) (b0 : Nat) (b1 : Int32) (b2 : Int32) (b3 : Int32) (h : mH) : Option (Int32 × mH) :=
  bd1 (gI h b0 4 0) fun x1 =>
  if x1 ≤ b3 then
    some (b2, h)
  else
    bd1 (gR h b0 4 17) fun x3 =>
    bd1 (aI h 0 x3 ((b1 * (5 : Int32)) + b3)) fun x5 =>
    rec4 b0 b1 (b2 + x5) (b3 + (1 : Int32)) h
set_option maxRecDepth 20000 in
theorem t_Realm_brokenByOne_4b {sc : Nat × (Nat → Int32)} (rec4 : Nat → Int32 → Int32 → Int32 → mH → Option (Int32 × mH)) (hrec4 : ∀ (b0 : Nat) (b1 : Int32) (b2 : Int32) (b3 : Int32) (h : mH) (r : Int32) (h' : mH), rec4 b0 b1 b2 b3 h = some (r, h') → G sc y_Realm_brokenByOne prog_5_method_8_code 4 (some .int) 0 0 4 [(0, .ref b0), (1, .int b1), (2, .int b2), (3, .int b3)] [] h (some (.int r)) h') (b0 : Nat) (b1 : Int32) (b2 : Int32) (b3 : Int32) (h : mH) (r : Int32) (h' : mH) (hf : f_Realm_brokenByOne_4b rec4 b0 b1 b2 b3 h = some (r, h')) : G sc y_Realm_brokenByOne prog_5_method_8_code 4 (some .int) 0 0 4 [(0, .ref b0), (1, .int b1), (2, .int b2), (3, .int b3)] [] h (some (.int r)) h' := by
  unfold f_Realm_brokenByOne_4b at hf
  refine g_iload_n (pc := 4) 3 dd_Realm_brokenByOne_0.2.2.2.2.1 rfl rfl ?_
  refine g_aload_n (pc := 5) 0 dd_Realm_brokenByOne_0.2.2.2.2.2.1 rfl rfl ?_
  obtain ⟨x1, e2, hf⟩ := bd1_e hf
  refine g_get (pc := 6) (ci := 4) (kk := 0) dd_Realm_brokenByOne_0.2.2.2.2.2.2.1 rfl in_Realm (by decide) wd_93 (gI_spec e2) ?_
  refine g_icmpge (pc := 9) 31 dd_Realm_brokenByOne_0.2.2.2.2.2.2.2.1 (by decide) (fun c7 => ?_) (fun c7 => ?_)
  · replace hf := (if_pos c7).symm.trans hf
    refine g_iload_n (pc := 31) 2 dd_Realm_brokenByOne_0.2.2.2.2.2.2.2.2.2.2.2.2.2.2.2.2.2.2.2.2.2.1 rfl rfl ?_
    obtain ⟨rfl, rfl⟩ := ret2 hf
    exact g_iret (pc := 32) rfl dd_Realm_brokenByOne_0.2.2.2.2.2.2.2.2.2.2.2.2.2.2.2.2.2.2.2.2.2.2
  · replace hf := (if_neg c7).symm.trans hf
    refine g_iload_n (pc := 12) 2 dd_Realm_brokenByOne_0.2.2.2.2.2.2.2.2.1 rfl rfl ?_
    refine g_aload_n (pc := 13) 0 dd_Realm_brokenByOne_0.2.2.2.2.2.2.2.2.2.1 rfl rfl ?_
    obtain ⟨x3, e4, hf⟩ := bd1_e hf
    refine g_get (pc := 14) (ci := 4) (kk := 17) dd_Realm_brokenByOne_0.2.2.2.2.2.2.2.2.2.2.1 rfl in_Realm (by decide) wd_152 (gR_spec e4) ?_
    refine g_iload_n (pc := 17) 1 dd_Realm_brokenByOne_0.2.2.2.2.2.2.2.2.2.2.2.1 rfl rfl ?_
    refine g_iconst (pc := 18) (5 : Int32) dd_Realm_brokenByOne_0.2.2.2.2.2.2.2.2.2.2.2.2.1 (by decide) ?_
    refine g_imul (pc := 19) dd_Realm_brokenByOne_0.2.2.2.2.2.2.2.2.2.2.2.2.2.1 ?_
    refine g_iload_n (pc := 20) 3 dd_Realm_brokenByOne_0.2.2.2.2.2.2.2.2.2.2.2.2.2.2.1 rfl rfl ?_
    refine g_iadd (pc := 21) dd_Realm_brokenByOne_0.2.2.2.2.2.2.2.2.2.2.2.2.2.2.2.1 ?_
    obtain ⟨x5, e6, hf⟩ := bd1_e hf
    refine g_iald (pc := 22) dd_Realm_brokenByOne_0.2.2.2.2.2.2.2.2.2.2.2.2.2.2.2.2.1 e6 ?_
    refine g_iadd (pc := 23) dd_Realm_brokenByOne_0.2.2.2.2.2.2.2.2.2.2.2.2.2.2.2.2.2.1 ?_
    refine g_istore_n (pc := 24) [(2, .int (b2 + x5)), (0, .ref b0), (1, .int b1), (3, .int b3)] dd_Realm_brokenByOne_0.2.2.2.2.2.2.2.2.2.2.2.2.2.2.2.2.2.2.1 rfl (Nat.le_of_ble_eq_true rfl) rfl ?_
    refine g_iinc (pc := 25) 3 (b3 + (1 : Int32)) [(3, .int (b3 + (1 : Int32))), (2, .int (b2 + x5)), (0, .ref b0), (1, .int b1)] dd_Realm_brokenByOne_0.2.2.2.2.2.2.2.2.2.2.2.2.2.2.2.2.2.2.2.1 rfl rfl (Nat.le_of_ble_eq_true rfl) rfl ?_
    refine g_goto (pc := 28) 4 dd_Realm_brokenByOne_0.2.2.2.2.2.2.2.2.2.2.2.2.2.2.2.2.2.2.2.2.1 (by decide) ?_
    refine g_lv [2, 3, 1, 0] rfl ?_
    exact hrec4 _ _ _ _ _ _ _  hf
def f_Realm_brokenByOne_4  : Nat → Nat → Int32 → Int32 → Int32 → mH → Option (Int32 × mH)
  | 0 => fun _ _ _ _ _ => none
  | n + 1 => f_Realm_brokenByOne_4b  (f_Realm_brokenByOne_4  n)
theorem t_Realm_brokenByOne_4 {sc : Nat × (Nat → Int32)}  : ∀ (n : Nat) (b0 : Nat) (b1 : Int32) (b2 : Int32) (b3 : Int32) (h : mH) (r : Int32) (h' : mH) (hf : f_Realm_brokenByOne_4  n b0 b1 b2 b3 h = some (r, h')), G sc y_Realm_brokenByOne prog_5_method_8_code 4 (some .int) 0 0 4 [(0, .ref b0), (1, .int b1), (2, .int b2), (3, .int b3)] [] h (some (.int r)) h'
  | 0, _, _, _, _, _, _, _, hf => by cases hf
  | n + 1, _, _, _, _, _, _, _, hf => t_Realm_brokenByOne_4b  (f_Realm_brokenByOne_4  n) (t_Realm_brokenByOne_4  n) _ _ _ _ _ _ _ hf
def f_Realm_brokenByOne_0  (a0 : Nat) (a1 : Int32) (h : mH) : Option (Int32 × mH) :=
  f_Realm_brokenByOne_4  FU a0 a1 (0 : Int32) (0 : Int32) h
set_option maxRecDepth 20000 in
theorem t_Realm_brokenByOne_0 {sc : Nat × (Nat → Int32)}  (a0 : Nat) (a1 : Int32) (h : mH) (r : Int32) (h' : mH) (hf : f_Realm_brokenByOne_0  a0 a1 h = some (r, h')) : G sc y_Realm_brokenByOne prog_5_method_8_code 4 (some .int) 0 0 0 [(0, .ref a0), (1, .int a1)] [] h (some (.int r)) h' := by
  unfold f_Realm_brokenByOne_0 at hf
  refine g_iconst (pc := 0) (0 : Int32) dd_Realm_brokenByOne_0.1 (by decide) ?_
  refine g_istore_n (pc := 1) [(2, .int (0 : Int32)), (0, .ref a0), (1, .int a1)] dd_Realm_brokenByOne_0.2.1 rfl (Nat.le_of_ble_eq_true rfl) rfl ?_
  refine g_iconst (pc := 2) (0 : Int32) dd_Realm_brokenByOne_0.2.2.1 (by decide) ?_
  refine g_istore_n (pc := 3) [(3, .int (0 : Int32)), (2, .int (0 : Int32)), (0, .ref a0), (1, .int a1)] dd_Realm_brokenByOne_0.2.2.2.1 rfl (Nat.le_of_ble_eq_true rfl) rfl ?_
  refine g_lv [2, 3, 1, 0] rfl ?_
  exact t_Realm_brokenByOne_4  FU _ _ _ _ _ _ _  hf
def f_Realm_brokenByOne (a0 : Nat) (a1 : Int32) (h : mH) : Option (Int32 × mH) := f_Realm_brokenByOne_0 a0 a1 h
theorem c_Realm_brokenByOne {sc : Nat × (Nat → Int32)} {a0 : Nat} {a1 : Int32} {h : mH} {r : Int32} {h' : mH} (hf : f_Realm_brokenByOne a0 a1 h = some (r, h')) : MM sc y_Realm_brokenByOne prog_5_method_8_code 4 (some .int) 0 0 [.ref a0, .int a1] h (some (.int r)) h' :=
  mm_of_G si_pn_Realm (Nat.le_of_ble_eq_true rfl) (t_Realm_brokenByOne_0 _ _ _ _ _ hf)
/-! Realm roomOf (II)I -/
set_option maxRecDepth 100000 in
theorem dd_Realm_roomOf_0 : (decode prog_5_method_14_code 0 = .ok (.aload_n 0, 1)) ∧ (decode prog_5_method_14_code 1 = .ok (.getfield 68, 3)) ∧ (decode prog_5_method_14_code 4 = .ok (.iload_n 2, 1)) ∧ (decode prog_5_method_14_code 5 = .ok (.invokestatic 104, 3)) ∧ (decode prog_5_method_14_code 8 = .ok (.ifCond .eq 20, 3)) ∧ (decode prog_5_method_14_code 11 = .ok (.aload_n 0, 1)) ∧ (decode prog_5_method_14_code 12 = .ok (.getfield 39, 3)) ∧ (decode prog_5_method_14_code 15 = .ok (.iload_n 1, 1)) ∧ (decode prog_5_method_14_code 16 = .ok (.iaload, 1)) ∧ (decode prog_5_method_14_code 17 = .ok (.iload_n 2, 1)) ∧ (decode prog_5_method_14_code 18 = .ok (.invokestatic 104, 3)) ∧ (decode prog_5_method_14_code 21 = .ok (.ifCond .ne 7, 3)) ∧ (decode prog_5_method_14_code 24 = .ok (.iconst 1, 1)) ∧ (decode prog_5_method_14_code 25 = .ok (.goto 4, 3)) ∧ (decode prog_5_method_14_code 28 = .ok (.iconst 0, 1)) ∧ (decode prog_5_method_14_code 29 = .ok (.istore_n 3, 1)) ∧ (decode prog_5_method_14_code 30 = .ok (.iload_n 3, 1)) ∧ (decode prog_5_method_14_code 31 = .ok (.ifCond .eq 23, 3)) ∧ (decode prog_5_method_14_code 34 = .ok (.iconst 0, 1)) ∧ (decode prog_5_method_14_code 35 = .ok (.aload_n 0, 1)) ∧ (decode prog_5_method_14_code 36 = .ok (.getfield 15, 3)) ∧ (decode prog_5_method_14_code 39 = .ok (.iload_n 2, 1)) ∧ (decode prog_5_method_14_code 40 = .ok (.iaload, 1)) ∧ (decode prog_5_method_14_code 41 = .ok (.aload_n 0, 1)) := by
  have h : List.drop 0 prog_5_method_14_code.data.toList = 0x2a :: _ := rfl
  refine ⟨zq_k_n 42 h rfl (zq_o_42 _), ?_⟩
  replace h := zq_nx1 (q := 1) h rfl
  refine ⟨zq_k_u2 180 (fun z => .getfield z) 68 h rfl (zq_o_180 _) (by decide +kernel), ?_⟩
  replace h := zq_nx3 (q := 4) h rfl
  refine ⟨zq_k_n 28 h rfl (zq_o_28 _), ?_⟩
  replace h := zq_nx1 (q := 5) h rfl
  refine ⟨zq_k_u2 184 (fun z => .invokestatic z) 104 h rfl (zq_o_184 _) (by decide +kernel), ?_⟩
  replace h := zq_nx3 (q := 8) h rfl
  refine ⟨zq_k_s2 153 (fun z => .ifCond .eq z) 20 h rfl (zq_o_153 _) (by decide +kernel), ?_⟩
  replace h := zq_nx3 (q := 11) h rfl
  refine ⟨zq_k_n 42 h rfl (zq_o_42 _), ?_⟩
  replace h := zq_nx1 (q := 12) h rfl
  refine ⟨zq_k_u2 180 (fun z => .getfield z) 39 h rfl (zq_o_180 _) (by decide +kernel), ?_⟩
  replace h := zq_nx3 (q := 15) h rfl
  refine ⟨zq_k_n 27 h rfl (zq_o_27 _), ?_⟩
  replace h := zq_nx1 (q := 16) h rfl
  refine ⟨zq_k_n 46 h rfl (zq_o_46 _), ?_⟩
  replace h := zq_nx1 (q := 17) h rfl
  refine ⟨zq_k_n 28 h rfl (zq_o_28 _), ?_⟩
  replace h := zq_nx1 (q := 18) h rfl
  refine ⟨zq_k_u2 184 (fun z => .invokestatic z) 104 h rfl (zq_o_184 _) (by decide +kernel), ?_⟩
  replace h := zq_nx3 (q := 21) h rfl
  refine ⟨zq_k_s2 154 (fun z => .ifCond .ne z) 7 h rfl (zq_o_154 _) (by decide +kernel), ?_⟩
  replace h := zq_nx3 (q := 24) h rfl
  refine ⟨zq_k_n 4 h rfl (zq_o_4 _), ?_⟩
  replace h := zq_nx1 (q := 25) h rfl
  refine ⟨zq_k_s2 167 (fun z => .goto z) 4 h rfl (zq_o_167 _) (by decide +kernel), ?_⟩
  replace h := zq_nx3 (q := 28) h rfl
  refine ⟨zq_k_n 3 h rfl (zq_o_3 _), ?_⟩
  replace h := zq_nx1 (q := 29) h rfl
  refine ⟨zq_k_n 62 h rfl (zq_o_62 _), ?_⟩
  replace h := zq_nx1 (q := 30) h rfl
  refine ⟨zq_k_n 29 h rfl (zq_o_29 _), ?_⟩
  replace h := zq_nx1 (q := 31) h rfl
  refine ⟨zq_k_s2 153 (fun z => .ifCond .eq z) 23 h rfl (zq_o_153 _) (by decide +kernel), ?_⟩
  replace h := zq_nx3 (q := 34) h rfl
  refine ⟨zq_k_n 3 h rfl (zq_o_3 _), ?_⟩
  replace h := zq_nx1 (q := 35) h rfl
  refine ⟨zq_k_n 42 h rfl (zq_o_42 _), ?_⟩
  replace h := zq_nx1 (q := 36) h rfl
  refine ⟨zq_k_u2 180 (fun z => .getfield z) 15 h rfl (zq_o_180 _) (by decide +kernel), ?_⟩
  replace h := zq_nx3 (q := 39) h rfl
  refine ⟨zq_k_n 28 h rfl (zq_o_28 _), ?_⟩
  replace h := zq_nx1 (q := 40) h rfl
  refine ⟨zq_k_n 46 h rfl (zq_o_46 _), ?_⟩
  replace h := zq_nx1 (q := 41) h rfl
  exact zq_k_n 42 h rfl (zq_o_42 _)
set_option maxRecDepth 100000 in
theorem dd_Realm_roomOf_42 : (decode prog_5_method_14_code 42 = .ok (.iload_n 1, 1)) ∧ (decode prog_5_method_14_code 43 = .ok (.iload_n 2, 1)) ∧ (decode prog_5_method_14_code 44 = .ok (.invokevirtual 108, 3)) ∧ (decode prog_5_method_14_code 47 = .ok (.isub, 1)) ∧ (decode prog_5_method_14_code 48 = .ok (.invokestatic 112, 3)) ∧ (decode prog_5_method_14_code 51 = .ok (.goto 4, 3)) ∧ (decode prog_5_method_14_code 54 = .ok (.iconst 0, 1)) ∧ (decode prog_5_method_14_code 55 = .ok (.ireturn, 1)) := by
  have h : List.drop 42 prog_5_method_14_code.data.toList = 0x1b :: _ := rfl
  refine ⟨zq_k_n 27 h rfl (zq_o_27 _), ?_⟩
  replace h := zq_nx1 (q := 43) h rfl
  refine ⟨zq_k_n 28 h rfl (zq_o_28 _), ?_⟩
  replace h := zq_nx1 (q := 44) h rfl
  refine ⟨zq_k_u2 182 (fun z => .invokevirtual z) 108 h rfl (zq_o_182 _) (by decide +kernel), ?_⟩
  replace h := zq_nx3 (q := 47) h rfl
  refine ⟨zq_k_n 100 h rfl (zq_o_100 _), ?_⟩
  replace h := zq_nx1 (q := 48) h rfl
  refine ⟨zq_k_u2 184 (fun z => .invokestatic z) 112 h rfl (zq_o_184 _) (by decide +kernel), ?_⟩
  replace h := zq_nx3 (q := 51) h rfl
  refine ⟨zq_k_s2 167 (fun z => .goto z) 4 h rfl (zq_o_167 _) (by decide +kernel), ?_⟩
  replace h := zq_nx3 (q := 54) h rfl
  refine ⟨zq_k_n 3 h rfl (zq_o_3 _), ?_⟩
  replace h := zq_nx1 (q := 55) h rfl
  exact zq_k_n 172 h rfl (zq_o_172 _)
def f_Realm_roomOf_29  (b0 : Nat) (b1 : Int32) (b2 : Int32) (s0 : Int32) (h : mH) : Option (Int32 × mH) :=
  if s0 = 0 then
    some ((0 : Int32), h)
  else
    bd1 (gR h b0 4 7) fun x15 =>
    bd1 (aI h 0 x15 b2) fun x17 =>
    bd1 (kC h b0 4) fun _ =>
    bd2 (f_Realm_brokenBy b0 b1 b2 h) fun x23 h21 =>
    some (if (0 : Int32) < (x17 - x23) then (x17 - x23) else (0 : Int32), h21)
set_option maxRecDepth 20000 in
theorem t_Realm_roomOf_29 {sc : Nat × (Nat → Int32)}  (b0 : Nat) (b1 : Int32) (b2 : Int32) (s0 : Int32) (h : mH) (r : Int32) (h' : mH) (hf : f_Realm_roomOf_29  b0 b1 b2 s0 h = some (r, h')) : G sc y_Realm_roomOf prog_5_method_14_code 4 (some .int) 1 22 29 [(0, .ref b0), (1, .int b1), (2, .int b2)] [.int s0] h (some (.int r)) h' := by
  unfold f_Realm_roomOf_29 at hf
  refine g_istore_n (pc := 29) [(3, .int s0), (0, .ref b0), (1, .int b1), (2, .int b2)] dd_Realm_roomOf_0.2.2.2.2.2.2.2.2.2.2.2.2.2.2.2.1 rfl (Nat.le_of_ble_eq_true rfl) rfl ?_
  refine g_iload_n (pc := 30) 0 dd_Realm_roomOf_0.2.2.2.2.2.2.2.2.2.2.2.2.2.2.2.2.1 rfl rfl ?_
  refine g_ifeq (pc := 31) 54 dd_Realm_roomOf_0.2.2.2.2.2.2.2.2.2.2.2.2.2.2.2.2.2.1 (by decide) (fun c24 => ?_) (fun c24 => ?_)
  · replace hf := (if_pos c24).symm.trans hf
    refine g_iconst (pc := 54) (0 : Int32) dd_Realm_roomOf_42.2.2.2.2.2.2.1 (by decide) ?_
    obtain ⟨rfl, rfl⟩ := ret2 hf
    exact g_iret (pc := 55) rfl dd_Realm_roomOf_42.2.2.2.2.2.2.2
  · replace hf := (if_neg c24).symm.trans hf
    refine g_iconst (pc := 34) (0 : Int32) dd_Realm_roomOf_0.2.2.2.2.2.2.2.2.2.2.2.2.2.2.2.2.2.2.1 (by decide) ?_
    refine g_aload_n (pc := 35) 1 dd_Realm_roomOf_0.2.2.2.2.2.2.2.2.2.2.2.2.2.2.2.2.2.2.2.1 rfl rfl ?_
    obtain ⟨x15, e16, hf⟩ := bd1_e hf
    refine g_get (pc := 36) (ci := 4) (kk := 7) dd_Realm_roomOf_0.2.2.2.2.2.2.2.2.2.2.2.2.2.2.2.2.2.2.2.2.1 rfl in_Realm (by decide) wd_116 (gR_spec e16) ?_
    refine g_iload_n (pc := 39) 3 dd_Realm_roomOf_0.2.2.2.2.2.2.2.2.2.2.2.2.2.2.2.2.2.2.2.2.2.1 rfl rfl ?_
    obtain ⟨x17, e18, hf⟩ := bd1_e hf
    refine g_iald (pc := 40) dd_Realm_roomOf_0.2.2.2.2.2.2.2.2.2.2.2.2.2.2.2.2.2.2.2.2.2.2.1 e18 ?_
    refine g_aload_n (pc := 41) 1 dd_Realm_roomOf_0.2.2.2.2.2.2.2.2.2.2.2.2.2.2.2.2.2.2.2.2.2.2.2 rfl rfl ?_
    refine g_iload_n (pc := 42) 2 dd_Realm_roomOf_42.1 rfl rfl ?_
    refine g_iload_n (pc := 43) 3 dd_Realm_roomOf_42.2.1 rfl rfl ?_
    obtain ⟨u20, e19, hf⟩ := bd1_e hf
    obtain ⟨x23, h21, e22, hf⟩ := bd2_e hf
    refine g_callV (pc := 44) (ci := 4) [.int b1, .int b2] (site_of si_Realm_brokenBy (by decide) (by decide)) wd_525 wd_526 wd_527 dd_Realm_roomOf_42.2.2.1 rfl e19 (Nat.le_of_ble_eq_true rfl) (fun z => absurd z si_na_Realm_brokenBy) (fun z => absurd z si_na_Realm_brokenBy) (fun z => absurd z si_na_Realm_brokenBy) (c_Realm_brokenBy e22) rfl ?_
    refine g_st [.int x23, .int x17, .int (0 : Int32)] rfl ?_
    refine g_isub (pc := 47) dd_Realm_roomOf_42.2.2.2.1 ?_
    refine g_mmax (pc := 48) dd_Realm_roomOf_42.2.2.2.2.1 wd_529 wd_530 wd_16 wd_531 (by decide) (Nat.le_of_ble_eq_true rfl) ?_
    refine g_goto (pc := 51) 55 dd_Realm_roomOf_42.2.2.2.2.2.1 (by decide) ?_
    obtain ⟨rfl, rfl⟩ := ret2 hf
    exact g_iret (pc := 55) rfl dd_Realm_roomOf_42.2.2.2.2.2.2.2
def f_Realm_roomOf_28  (b0 : Nat) (b1 : Int32) (b2 : Int32) (h : mH) : Option (Int32 × mH) :=
  f_Realm_roomOf_29  b0 b1 b2 (0 : Int32) h
set_option maxRecDepth 20000 in
theorem t_Realm_roomOf_28 {sc : Nat × (Nat → Int32)}  (b0 : Nat) (b1 : Int32) (b2 : Int32) (h : mH) (r : Int32) (h' : mH) (hf : f_Realm_roomOf_28  b0 b1 b2 h = some (r, h')) : G sc y_Realm_roomOf prog_5_method_14_code 4 (some .int) 1 22 28 [(0, .ref b0), (1, .int b1), (2, .int b2)] [] h (some (.int r)) h' := by
  unfold f_Realm_roomOf_28 at hf
  refine g_iconst (pc := 28) (0 : Int32) dd_Realm_roomOf_0.2.2.2.2.2.2.2.2.2.2.2.2.2.2.1 (by decide) ?_
  refine g_lv [0, 1, 2] rfl ?_
  exact t_Realm_roomOf_29  _ _ _ _ _ _ _  hf
def f_Realm_roomOf_0  (a0 : Nat) (a1 : Int32) (a2 : Int32) (h : mH) : Option (Int32 × mH) :=
  bd1 (gI h a0 4 4) fun x1 =>
  bd2 (f_Q_hasBit x1 a2 h) fun x5 h3 =>
  if x5 = 0 then
    f_Realm_roomOf_28  a0 a1 a2 h3
  else
    bd1 (gR h3 a0 4 15) fun x6 =>
    bd1 (aI h3 0 x6 a1) fun x8 =>
    bd2 (f_Q_hasBit x8 a2 h3) fun x12 h10 =>
    if x12 = 0 then
      f_Realm_roomOf_29  a0 a1 a2 (1 : Int32) h10
    else
      f_Realm_roomOf_28  a0 a1 a2 h10
set_option maxRecDepth 20000 in
theorem t_Realm_roomOf_0 {sc : Nat × (Nat → Int32)}  (a0 : Nat) (a1 : Int32) (a2 : Int32) (h : mH) (r : Int32) (h' : mH) (hf : f_Realm_roomOf_0  a0 a1 a2 h = some (r, h')) : G sc y_Realm_roomOf prog_5_method_14_code 4 (some .int) 1 22 0 [(0, .ref a0), (1, .int a1), (2, .int a2)] [] h (some (.int r)) h' := by
  unfold f_Realm_roomOf_0 at hf
  refine g_aload_n (pc := 0) 0 dd_Realm_roomOf_0.1 rfl rfl ?_
  obtain ⟨x1, e2, hf⟩ := bd1_e hf
  refine g_get (pc := 1) (ci := 4) (kk := 4) dd_Realm_roomOf_0.2.1 rfl in_Realm (by decide) wd_107 (gI_spec e2) ?_
  refine g_iload_n (pc := 4) 2 dd_Realm_roomOf_0.2.2.1 rfl rfl ?_
  obtain ⟨x5, h3, e4, hf⟩ := bd2_e hf
  refine g_callSN (pc := 5) "QuotaLaws" [.int x1, .int a2] (site_of si_Q_hasBit (by decide) (by decide)) wd_524 wd_469 dd_Realm_roomOf_0.2.2.2.1 (Nat.le_of_ble_eq_true rfl) (fun z => absurd z si_na_Q_hasBit) (fun z => absurd z si_na_Q_hasBit) (fun z => absurd z si_na_Q_hasBit) (c_Q_hasBit e4) rfl ?_
  refine g_st [.int x5] rfl ?_
  refine g_ifeq (pc := 8) 28 dd_Realm_roomOf_0.2.2.2.2.1 (by decide) (fun c14 => ?_) (fun c14 => ?_)
  · replace hf := (if_pos c14).symm.trans hf
    refine g_lv [0, 1, 2] rfl ?_
    exact t_Realm_roomOf_28  _ _ _ _ _ _  hf
  · replace hf := (if_neg c14).symm.trans hf
    refine g_aload_n (pc := 11) 0 dd_Realm_roomOf_0.2.2.2.2.2.1 rfl rfl ?_
    obtain ⟨x6, e7, hf⟩ := bd1_e hf
    refine g_get (pc := 12) (ci := 4) (kk := 15) dd_Realm_roomOf_0.2.2.2.2.2.2.1 rfl in_Realm (by decide) wd_145 (gR_spec e7) ?_
    refine g_iload_n (pc := 15) 1 dd_Realm_roomOf_0.2.2.2.2.2.2.2.1 rfl rfl ?_
    obtain ⟨x8, e9, hf⟩ := bd1_e hf
    refine g_iald (pc := 16) dd_Realm_roomOf_0.2.2.2.2.2.2.2.2.1 e9 ?_
    refine g_iload_n (pc := 17) 2 dd_Realm_roomOf_0.2.2.2.2.2.2.2.2.2.1 rfl rfl ?_
    obtain ⟨x12, h10, e11, hf⟩ := bd2_e hf
    refine g_callSN (pc := 18) "QuotaLaws" [.int x8, .int a2] (site_of si_Q_hasBit (by decide) (by decide)) wd_524 wd_469 dd_Realm_roomOf_0.2.2.2.2.2.2.2.2.2.2.1 (Nat.le_of_ble_eq_true rfl) (fun z => absurd z si_na_Q_hasBit) (fun z => absurd z si_na_Q_hasBit) (fun z => absurd z si_na_Q_hasBit) (c_Q_hasBit e11) rfl ?_
    refine g_st [.int x12] rfl ?_
    refine g_ifne (pc := 21) 28 dd_Realm_roomOf_0.2.2.2.2.2.2.2.2.2.2.2.1 (by decide) (fun c13 => ?_) (fun c13 => ?_)
    · replace hf := (if_neg c13).symm.trans hf
      refine g_lv [0, 1, 2] rfl ?_
      exact t_Realm_roomOf_28  _ _ _ _ _ _  hf
    · replace hf := (if_pos c13).symm.trans hf
      refine g_iconst (pc := 24) (1 : Int32) dd_Realm_roomOf_0.2.2.2.2.2.2.2.2.2.2.2.2.1 (by decide) ?_
      refine g_goto (pc := 25) 29 dd_Realm_roomOf_0.2.2.2.2.2.2.2.2.2.2.2.2.2.1 (by decide) ?_
      refine g_lv [0, 1, 2] rfl ?_
      exact t_Realm_roomOf_29  _ _ _ _ _ _ _  hf
def f_Realm_roomOf (a0 : Nat) (a1 : Int32) (a2 : Int32) (h : mH) : Option (Int32 × mH) := f_Realm_roomOf_0 a0 a1 a2 h
theorem c_Realm_roomOf {sc : Nat × (Nat → Int32)} {a0 : Nat} {a1 : Int32} {a2 : Int32} {h : mH} {r : Int32} {h' : mH} (hf : f_Realm_roomOf a0 a1 a2 h = some (r, h')) : MM sc y_Realm_roomOf prog_5_method_14_code 4 (some .int) 1 22 [.ref a0, .int a1, .int a2] h (some (.int r)) h' :=
  mm_of_G si_pn_Realm (Nat.le_of_ble_eq_true rfl) (t_Realm_roomOf_0 _ _ _ _ _ _ hf)
/-! Realm timeLeft (I)I -/
set_option maxRecDepth 100000 in
theorem dd_Realm_timeLeft_0 : (decode prog_5_method_15_code 0 = .ok (.iconst 0, 1)) ∧ (decode prog_5_method_15_code 1 = .ok (.aload_n 0, 1)) ∧ (decode prog_5_method_15_code 2 = .ok (.getfield 27, 3)) ∧ (decode prog_5_method_15_code 5 = .ok (.iload_n 1, 1)) ∧ (decode prog_5_method_15_code 6 = .ok (.iaload, 1)) ∧ (decode prog_5_method_15_code 7 = .ok (.aload_n 0, 1)) ∧ (decode prog_5_method_15_code 8 = .ok (.iload_n 1, 1)) ∧ (decode prog_5_method_15_code 9 = .ok (.invokevirtual 100, 3)) ∧ (decode prog_5_method_15_code 12 = .ok (.isub, 1)) ∧ (decode prog_5_method_15_code 13 = .ok (.invokestatic 112, 3)) ∧ (decode prog_5_method_15_code 16 = .ok (.ireturn, 1)) := by
  have h : List.drop 0 prog_5_method_15_code.data.toList = 0x03 :: _ := rfl
  refine ⟨zq_k_n 3 h rfl (zq_o_3 _), ?_⟩
  replace h := zq_nx1 (q := 1) h rfl
  refine ⟨zq_k_n 42 h rfl (zq_o_42 _), ?_⟩
  replace h := zq_nx1 (q := 2) h rfl
  refine ⟨zq_k_u2 180 (fun z => .getfield z) 27 h rfl (zq_o_180 _) (by decide +kernel), ?_⟩
  replace h := zq_nx3 (q := 5) h rfl
  refine ⟨zq_k_n 27 h rfl (zq_o_27 _), ?_⟩
  replace h := zq_nx1 (q := 6) h rfl
  refine ⟨zq_k_n 46 h rfl (zq_o_46 _), ?_⟩
  replace h := zq_nx1 (q := 7) h rfl
  refine ⟨zq_k_n 42 h rfl (zq_o_42 _), ?_⟩
  replace h := zq_nx1 (q := 8) h rfl
  refine ⟨zq_k_n 27 h rfl (zq_o_27 _), ?_⟩
  replace h := zq_nx1 (q := 9) h rfl
  refine ⟨zq_k_u2 182 (fun z => .invokevirtual z) 100 h rfl (zq_o_182 _) (by decide +kernel), ?_⟩
  replace h := zq_nx3 (q := 12) h rfl
  refine ⟨zq_k_n 100 h rfl (zq_o_100 _), ?_⟩
  replace h := zq_nx1 (q := 13) h rfl
  refine ⟨zq_k_u2 184 (fun z => .invokestatic z) 112 h rfl (zq_o_184 _) (by decide +kernel), ?_⟩
  replace h := zq_nx3 (q := 16) h rfl
  exact zq_k_n 172 h rfl (zq_o_172 _)
def f_Realm_timeLeft_0  (a0 : Nat) (a1 : Int32) (h : mH) : Option (Int32 × mH) :=
  bd1 (gR h a0 4 11) fun x1 =>
  bd1 (aI h 0 x1 a1) fun x3 =>
  bd1 (kC h a0 4) fun _ =>
  bd2 (f_Realm_brokenByOne a0 a1 h) fun x9 h7 =>
  some (if (0 : Int32) < (x3 - x9) then (x3 - x9) else (0 : Int32), h7)
set_option maxRecDepth 20000 in
theorem t_Realm_timeLeft_0 {sc : Nat × (Nat → Int32)}  (a0 : Nat) (a1 : Int32) (h : mH) (r : Int32) (h' : mH) (hf : f_Realm_timeLeft_0  a0 a1 h = some (r, h')) : G sc y_Realm_timeLeft prog_5_method_15_code 2 (some .int) 1 23 0 [(0, .ref a0), (1, .int a1)] [] h (some (.int r)) h' := by
  unfold f_Realm_timeLeft_0 at hf
  refine g_iconst (pc := 0) (0 : Int32) dd_Realm_timeLeft_0.1 (by decide) ?_
  refine g_aload_n (pc := 1) 0 dd_Realm_timeLeft_0.2.1 rfl rfl ?_
  obtain ⟨x1, e2, hf⟩ := bd1_e hf
  refine g_get (pc := 2) (ci := 4) (kk := 11) dd_Realm_timeLeft_0.2.2.1 rfl in_Realm (by decide) wd_130 (gR_spec e2) ?_
  refine g_iload_n (pc := 5) 1 dd_Realm_timeLeft_0.2.2.2.1 rfl rfl ?_
  obtain ⟨x3, e4, hf⟩ := bd1_e hf
  refine g_iald (pc := 6) dd_Realm_timeLeft_0.2.2.2.2.1 e4 ?_
  refine g_aload_n (pc := 7) 0 dd_Realm_timeLeft_0.2.2.2.2.2.1 rfl rfl ?_
  refine g_iload_n (pc := 8) 1 dd_Realm_timeLeft_0.2.2.2.2.2.2.1 rfl rfl ?_
  obtain ⟨u6, e5, hf⟩ := bd1_e hf
  obtain ⟨x9, h7, e8, hf⟩ := bd2_e hf
  refine g_callV (pc := 9) (ci := 4) [.int a1] (site_of si_Realm_brokenByOne (by decide) (by decide)) wd_562 wd_543 wd_544 dd_Realm_timeLeft_0.2.2.2.2.2.2.2.1 rfl e5 (Nat.le_of_ble_eq_true rfl) (fun z => absurd z si_na_Realm_brokenByOne) (fun z => absurd z si_na_Realm_brokenByOne) (fun z => absurd z si_na_Realm_brokenByOne) (c_Realm_brokenByOne e8) rfl ?_
  refine g_st [.int x9, .int x3, .int (0 : Int32)] rfl ?_
  refine g_isub (pc := 12) dd_Realm_timeLeft_0.2.2.2.2.2.2.2.2.1 ?_
  refine g_mmax (pc := 13) dd_Realm_timeLeft_0.2.2.2.2.2.2.2.2.2.1 wd_529 wd_530 wd_16 wd_531 (by decide) (Nat.le_of_ble_eq_true rfl) ?_
  obtain ⟨rfl, rfl⟩ := ret2 hf
  exact g_iret (pc := 16) rfl dd_Realm_timeLeft_0.2.2.2.2.2.2.2.2.2.2
def f_Realm_timeLeft (a0 : Nat) (a1 : Int32) (h : mH) : Option (Int32 × mH) := f_Realm_timeLeft_0 a0 a1 h
theorem c_Realm_timeLeft {sc : Nat × (Nat → Int32)} {a0 : Nat} {a1 : Int32} {h : mH} {r : Int32} {h' : mH} (hf : f_Realm_timeLeft a0 a1 h = some (r, h')) : MM sc y_Realm_timeLeft prog_5_method_15_code 2 (some .int) 1 23 [.ref a0, .int a1] h (some (.int r)) h' :=
  mm_of_G si_pn_Realm (Nat.le_of_ble_eq_true rfl) (t_Realm_timeLeft_0 _ _ _ _ _ hf)
/-! Realm ableAlone (II)I -/
set_option maxRecDepth 100000 in
theorem dd_Realm_ableAlone_0 : (decode prog_5_method_16_code 0 = .ok (.aload_n 0, 1)) ∧ (decode prog_5_method_16_code 1 = .ok (.iload_n 1, 1)) ∧ (decode prog_5_method_16_code 2 = .ok (.iload_n 2, 1)) ∧ (decode prog_5_method_16_code 3 = .ok (.invokevirtual 120, 3)) ∧ (decode prog_5_method_16_code 6 = .ok (.aload_n 0, 1)) ∧ (decode prog_5_method_16_code 7 = .ok (.iload_n 1, 1)) ∧ (decode prog_5_method_16_code 8 = .ok (.invokevirtual 123, 3)) ∧ (decode prog_5_method_16_code 11 = .ok (.invokestatic 126, 3)) ∧ (decode prog_5_method_16_code 14 = .ok (.ireturn, 1)) := by
  have h : List.drop 0 prog_5_method_16_code.data.toList = 0x2a :: _ := rfl
  refine ⟨zq_k_n 42 h rfl (zq_o_42 _), ?_⟩
  replace h := zq_nx1 (q := 1) h rfl
  refine ⟨zq_k_n 27 h rfl (zq_o_27 _), ?_⟩
  replace h := zq_nx1 (q := 2) h rfl
  refine ⟨zq_k_n 28 h rfl (zq_o_28 _), ?_⟩
  replace h := zq_nx1 (q := 3) h rfl
  refine ⟨zq_k_u2 182 (fun z => .invokevirtual z) 120 h rfl (zq_o_182 _) (by decide +kernel), ?_⟩
  replace h := zq_nx3 (q := 6) h rfl
  refine ⟨zq_k_n 42 h rfl (zq_o_42 _), ?_⟩
  replace h := zq_nx1 (q := 7) h rfl
  refine ⟨zq_k_n 27 h rfl (zq_o_27 _), ?_⟩
  replace h := zq_nx1 (q := 8) h rfl
  refine ⟨zq_k_u2 182 (fun z => .invokevirtual z) 123 h rfl (zq_o_182 _) (by decide +kernel), ?_⟩
  replace h := zq_nx3 (q := 11) h rfl
  refine ⟨zq_k_u2 184 (fun z => .invokestatic z) 126 h rfl (zq_o_184 _) (by decide +kernel), ?_⟩
  replace h := zq_nx3 (q := 14) h rfl
  exact zq_k_n 172 h rfl (zq_o_172 _)
def f_Realm_ableAlone_0  (a0 : Nat) (a1 : Int32) (a2 : Int32) (h : mH) : Option (Int32 × mH) :=
  bd1 (kC h a0 4) fun _ =>
  bd2 (f_Realm_roomOf a0 a1 a2 h) fun x5 h3 =>
  bd1 (kC h3 a0 4) fun _ =>
  bd2 (f_Realm_timeLeft a0 a1 h3) fun x10 h8 =>
  some (if x10 < x5 then x10 else x5, h8)
set_option maxRecDepth 20000 in
theorem t_Realm_ableAlone_0 {sc : Nat × (Nat → Int32)}  (a0 : Nat) (a1 : Int32) (a2 : Int32) (h : mH) (r : Int32) (h' : mH) (hf : f_Realm_ableAlone_0  a0 a1 a2 h = some (r, h')) : G sc y_Realm_ableAlone prog_5_method_16_code 3 (some .int) 2 45 0 [(0, .ref a0), (1, .int a1), (2, .int a2)] [] h (some (.int r)) h' := by
  unfold f_Realm_ableAlone_0 at hf
  refine g_aload_n (pc := 0) 0 dd_Realm_ableAlone_0.1 rfl rfl ?_
  refine g_iload_n (pc := 1) 1 dd_Realm_ableAlone_0.2.1 rfl rfl ?_
  refine g_iload_n (pc := 2) 2 dd_Realm_ableAlone_0.2.2.1 rfl rfl ?_
  obtain ⟨u2, e1, hf⟩ := bd1_e hf
  obtain ⟨x5, h3, e4, hf⟩ := bd2_e hf
  refine g_callV (pc := 3) (ci := 4) [.int a1, .int a2] (site_of si_Realm_roomOf (by decide) (by decide)) wd_554 wd_555 wd_556 dd_Realm_ableAlone_0.2.2.2.1 rfl e1 (Nat.le_of_ble_eq_true rfl) (fun z => absurd z si_na_Realm_roomOf) (fun z => absurd z si_na_Realm_roomOf) (fun z => absurd z si_na_Realm_roomOf) (c_Realm_roomOf e4) rfl ?_
  refine g_st [.int x5] rfl ?_
  refine g_aload_n (pc := 6) 0 dd_Realm_ableAlone_0.2.2.2.2.1 rfl rfl ?_
  refine g_iload_n (pc := 7) 1 dd_Realm_ableAlone_0.2.2.2.2.2.1 rfl rfl ?_
  obtain ⟨u7, e6, hf⟩ := bd1_e hf
  obtain ⟨x10, h8, e9, hf⟩ := bd2_e hf
  refine g_callV (pc := 8) (ci := 4) [.int a1] (site_of si_Realm_timeLeft (by decide) (by decide)) wd_558 wd_559 wd_560 dd_Realm_ableAlone_0.2.2.2.2.2.2.1 rfl e6 (Nat.le_of_ble_eq_true rfl) (fun z => absurd z si_na_Realm_timeLeft) (fun z => absurd z si_na_Realm_timeLeft) (fun z => absurd z si_na_Realm_timeLeft) (c_Realm_timeLeft e9) rfl ?_
  refine g_st [.int x10, .int x5] rfl ?_
  refine g_mmin (pc := 11) dd_Realm_ableAlone_0.2.2.2.2.2.2.2.1 wd_563 wd_564 wd_16 wd_565 (by decide) (Nat.le_of_ble_eq_true rfl) ?_
  obtain ⟨rfl, rfl⟩ := ret2 hf
  exact g_iret (pc := 14) rfl dd_Realm_ableAlone_0.2.2.2.2.2.2.2.2
def f_Realm_ableAlone (a0 : Nat) (a1 : Int32) (a2 : Int32) (h : mH) : Option (Int32 × mH) := f_Realm_ableAlone_0 a0 a1 a2 h
theorem c_Realm_ableAlone {sc : Nat × (Nat → Int32)} {a0 : Nat} {a1 : Int32} {a2 : Int32} {h : mH} {r : Int32} {h' : mH} (hf : f_Realm_ableAlone a0 a1 a2 h = some (r, h')) : MM sc y_Realm_ableAlone prog_5_method_16_code 3 (some .int) 2 45 [.ref a0, .int a1, .int a2] h (some (.int r)) h' :=
  mm_of_G si_pn_Realm (Nat.le_of_ble_eq_true rfl) (t_Realm_ableAlone_0 _ _ _ _ _ _ hf)
/-! Realm breakable (I)I -/
set_option maxRecDepth 100000 in
theorem dd_Realm_breakable_0 : (decode prog_5_method_18_code 0 = .ok (.iconst 0, 1)) ∧ (decode prog_5_method_18_code 1 = .ok (.istore_n 2, 1)) ∧ (decode prog_5_method_18_code 2 = .ok (.iconst 0, 1)) ∧ (decode prog_5_method_18_code 3 = .ok (.istore_n 3, 1)) ∧ (decode prog_5_method_18_code 4 = .ok (.iload_n 3, 1)) ∧ (decode prog_5_method_18_code 5 = .ok (.aload_n 0, 1)) ∧ (decode prog_5_method_18_code 6 = .ok (.getfield 55, 3)) ∧ (decode prog_5_method_18_code 9 = .ok (.if_icmp .ge 28, 3)) ∧ (decode prog_5_method_18_code 12 = .ok (.iload_n 2, 1)) ∧ (decode prog_5_method_18_code 13 = .ok (.aload_n 0, 1)) ∧ (decode prog_5_method_18_code 14 = .ok (.iload_n 1, 1)) ∧ (decode prog_5_method_18_code 15 = .ok (.iload_n 3, 1)) ∧ (decode prog_5_method_18_code 16 = .ok (.invokevirtual 129, 3)) ∧ (decode prog_5_method_18_code 19 = .ok (.ifCond .le 9, 3)) ∧ (decode prog_5_method_18_code 22 = .ok (.iconst 1, 1)) ∧ (decode prog_5_method_18_code 23 = .ok (.iload_n 3, 1)) ∧ (decode prog_5_method_18_code 24 = .ok (.ishl, 1)) ∧ (decode prog_5_method_18_code 25 = .ok (.goto 4, 3)) ∧ (decode prog_5_method_18_code 28 = .ok (.iconst 0, 1)) ∧ (decode prog_5_method_18_code 29 = .ok (.ior, 1)) ∧ (decode prog_5_method_18_code 30 = .ok (.istore_n 2, 1)) ∧ (decode prog_5_method_18_code 31 = .ok (.iinc 3 1, 3)) ∧ (decode prog_5_method_18_code 34 = .ok (.goto (-30), 3)) ∧ (decode prog_5_method_18_code 37 = .ok (.iload_n 2, 1)) := by
  have h : List.drop 0 prog_5_method_18_code.data.toList = 0x03 :: _ := rfl
  refine ⟨zq_k_n 3 h rfl (zq_o_3 _), ?_⟩
  replace h := zq_nx1 (q := 1) h rfl
  refine ⟨zq_k_n 61 h rfl (zq_o_61 _), ?_⟩
  replace h := zq_nx1 (q := 2) h rfl
  refine ⟨zq_k_n 3 h rfl (zq_o_3 _), ?_⟩
  replace h := zq_nx1 (q := 3) h rfl
  refine ⟨zq_k_n 62 h rfl (zq_o_62 _), ?_⟩
  replace h := zq_nx1 (q := 4) h rfl
  refine ⟨zq_k_n 29 h rfl (zq_o_29 _), ?_⟩
  replace h := zq_nx1 (q := 5) h rfl
  refine ⟨zq_k_n 42 h rfl (zq_o_42 _), ?_⟩
  replace h := zq_nx1 (q := 6) h rfl
  refine ⟨zq_k_u2 180 (fun z => .getfield z) 55 h rfl (zq_o_180 _) (by decide +kernel), ?_⟩
  replace h := zq_nx3 (q := 9) h rfl
  refine ⟨zq_k_s2 162 (fun z => .if_icmp .ge z) 28 h rfl (zq_o_162 _) (by decide +kernel), ?_⟩
  replace h := zq_nx3 (q := 12) h rfl
  refine ⟨zq_k_n 28 h rfl (zq_o_28 _), ?_⟩
  replace h := zq_nx1 (q := 13) h rfl
  refine ⟨zq_k_n 42 h rfl (zq_o_42 _), ?_⟩
  replace h := zq_nx1 (q := 14) h rfl
  refine ⟨zq_k_n 27 h rfl (zq_o_27 _), ?_⟩
  replace h := zq_nx1 (q := 15) h rfl
  refine ⟨zq_k_n 29 h rfl (zq_o_29 _), ?_⟩
  replace h := zq_nx1 (q := 16) h rfl
  refine ⟨zq_k_u2 182 (fun z => .invokevirtual z) 129 h rfl (zq_o_182 _) (by decide +kernel), ?_⟩
  replace h := zq_nx3 (q := 19) h rfl
  refine ⟨zq_k_s2 158 (fun z => .ifCond .le z) 9 h rfl (zq_o_158 _) (by decide +kernel), ?_⟩
  replace h := zq_nx3 (q := 22) h rfl
  refine ⟨zq_k_n 4 h rfl (zq_o_4 _), ?_⟩
  replace h := zq_nx1 (q := 23) h rfl
  refine ⟨zq_k_n 29 h rfl (zq_o_29 _), ?_⟩
  replace h := zq_nx1 (q := 24) h rfl
  refine ⟨zq_k_n 120 h rfl (zq_o_120 _), ?_⟩
  replace h := zq_nx1 (q := 25) h rfl
  refine ⟨zq_k_s2 167 (fun z => .goto z) 4 h rfl (zq_o_167 _) (by decide +kernel), ?_⟩
  replace h := zq_nx3 (q := 28) h rfl
  refine ⟨zq_k_n 3 h rfl (zq_o_3 _), ?_⟩
  replace h := zq_nx1 (q := 29) h rfl
  refine ⟨zq_k_n 128 h rfl (zq_o_128 _), ?_⟩
  replace h := zq_nx1 (q := 30) h rfl
  refine ⟨zq_k_n 61 h rfl (zq_o_61 _), ?_⟩
  replace h := zq_nx1 (q := 31) h rfl
  refine ⟨zq_k_iinc 3 1 h rfl (zq_o_132 _) (by decide +kernel) (by decide +kernel), ?_⟩
  replace h := zq_nx3 (q := 34) h rfl
  refine ⟨zq_k_s2 167 (fun z => .goto z) (-30) h rfl (zq_o_167 _) (by decide +kernel), ?_⟩
  replace h := zq_nx3 (q := 37) h rfl
  exact zq_k_n 28 h rfl (zq_o_28 _)
set_option maxRecDepth 100000 in
theorem dd_Realm_breakable_38 : decode prog_5_method_18_code 38 = .ok (.ireturn, 1) := by
  have h : List.drop 38 prog_5_method_18_code.data.toList = 0xac :: _ := rfl
  exact zq_k_n 172 h rfl (zq_o_172 _)
def f_Realm_breakable_29 (rec4 : Nat → Int32 → Int32 → Int32 → mH → Option (Int32 × mH)) (b0 : Nat) (b1 : Int32) (b3 : Int32) (s0 : Int32) (s1 : Int32) (h : mH) : Option (Int32 × mH) :=
  rec4 b0 b1 (s0 ||| s1) (b3 + (1 : Int32)) h
set_option maxRecDepth 20000 in
theorem t_Realm_breakable_29 {sc : Nat × (Nat → Int32)} (rec4 : Nat → Int32 → Int32 → Int32 → mH → Option (Int32 × mH)) (hrec4 : ∀ (b0 : Nat) (b1 : Int32) (b2 : Int32) (b3 : Int32) (h : mH) (r : Int32) (h' : mH), rec4 b0 b1 b2 b3 h = some (r, h') → G sc y_Realm_breakable prog_5_method_18_code 4 (some .int) 3 67 4 [(0, .ref b0), (1, .int b1), (2, .int b2), (3, .int b3)] [] h (some (.int r)) h') (b0 : Nat) (b1 : Int32) (b3 : Int32) (s0 : Int32) (s1 : Int32) (h : mH) (r : Int32) (h' : mH) (hf : f_Realm_breakable_29 rec4 b0 b1 b3 s0 s1 h = some (r, h')) : G sc y_Realm_breakable prog_5_method_18_code 4 (some .int) 3 67 29 [(0, .ref b0), (1, .int b1), (3, .int b3)] [.int s1, .int s0] h (some (.int r)) h' := by
  unfold f_Realm_breakable_29 at hf
  refine g_ior (pc := 29) dd_Realm_breakable_0.2.2.2.2.2.2.2.2.2.2.2.2.2.2.2.2.2.2.2.1 ?_
  refine g_istore_n (pc := 30) [(2, .int (s0 ||| s1)), (0, .ref b0), (1, .int b1), (3, .int b3)] dd_Realm_breakable_0.2.2.2.2.2.2.2.2.2.2.2.2.2.2.2.2.2.2.2.2.1 rfl (Nat.le_of_ble_eq_true rfl) rfl ?_
  refine g_iinc (pc := 31) 3 (b3 + (1 : Int32)) [(3, .int (b3 + (1 : Int32))), (2, .int (s0 ||| s1)), (0, .ref b0), (1, .int b1)] dd_Realm_breakable_0.2.2.2.2.2.2.2.2.2.2.2.2.2.2.2.2.2.2.2.2.2.1 rfl rfl (Nat.le_of_ble_eq_true rfl) rfl ?_
  refine g_goto (pc := 34) 4 dd_Realm_breakable_0.2.2.2.2.2.2.2.2.2.2.2.2.2.2.2.2.2.2.2.2.2.2.1 (by decide) ?_
  refine g_lv [2, 3, 1, 0] rfl ?_
  exact hrec4 _ _ _ _ _ _ _  hf
def f_Realm_breakable_4b (rec4 : Nat → Int32 → Int32 → Int32 → mH → Option (Int32 × mH)) (b0 : Nat) (b1 : Int32) (b2 : Int32) (b3 : Int32) (h : mH) : Option (Int32 × mH) :=
  bd1 (gI h b0 4 0) fun x1 =>
  if x1 ≤ b3 then
    some (b2, h)
  else
    bd1 (kC h b0 4) fun _ =>
    bd2 (f_Realm_ableAlone b0 b1 b3 h) fun x7 h5 =>
    if x7 ≤ 0 then
      f_Realm_breakable_29 rec4 b0 b1 b3 b2 (0 : Int32) h5
    else
      f_Realm_breakable_29 rec4 b0 b1 b3 b2 ((1 : Int32) <<< (b3 &&& 31)) h5
set_option maxRecDepth 20000 in
theorem t_Realm_breakable_4b {sc : Nat × (Nat → Int32)} (rec4 : Nat → Int32 → Int32 → Int32 → mH → Option (Int32 × mH)) (hrec4 : ∀ (b0 : Nat) (b1 : Int32) (b2 : Int32) (b3 : Int32) (h : mH) (r : Int32) (h' : mH), rec4 b0 b1 b2 b3 h = some (r, h') → G sc y_Realm_breakable prog_5_method_18_code 4 (some .int) 3 67 4 [(0, .ref b0), (1, .int b1), (2, .int b2), (3, .int b3)] [] h (some (.int r)) h') (b0 : Nat) (b1 : Int32) (b2 : Int32) (b3 : Int32) (h : mH) (r : Int32) (h' : mH) (hf : f_Realm_breakable_4b rec4 b0 b1 b2 b3 h = some (r, h')) : G sc y_Realm_breakable prog_5_method_18_code 4 (some .int) 3 67 4 [(0, .ref b0), (1, .int b1), (2, .int b2), (3, .int b3)] [] h (some (.int r)) h' := by
  unfold f_Realm_breakable_4b at hf
  refine g_iload_n (pc := 4) 3 dd_Realm_breakable_0.2.2.2.2.1 rfl rfl ?_
  refine g_aload_n (pc := 5) 0 dd_Realm_breakable_0.2.2.2.2.2.1 rfl rfl ?_
  obtain ⟨x1, e2, hf⟩ := bd1_e hf
  refine g_get (pc := 6) (ci := 4) (kk := 0) dd_Realm_breakable_0.2.2.2.2.2.2.1 rfl in_Realm (by decide) wd_93 (gI_spec e2) ?_
  refine g_icmpge (pc := 9) 37 dd_Realm_breakable_0.2.2.2.2.2.2.2.1 (by decide) (fun c9 => ?_) (fun c9 => ?_)
  · replace hf := (if_pos c9).symm.trans hf
    refine g_iload_n (pc := 37) 2 dd_Realm_breakable_0.2.2.2.2.2.2.2.2.2.2.2.2.2.2.2.2.2.2.2.2.2.2.2 rfl rfl ?_
    obtain ⟨rfl, rfl⟩ := ret2 hf
    exact g_iret (pc := 38) rfl dd_Realm_breakable_38
  · replace hf := (if_neg c9).symm.trans hf
    refine g_iload_n (pc := 12) 2 dd_Realm_breakable_0.2.2.2.2.2.2.2.2.1 rfl rfl ?_
    refine g_aload_n (pc := 13) 0 dd_Realm_breakable_0.2.2.2.2.2.2.2.2.2.1 rfl rfl ?_
    refine g_iload_n (pc := 14) 1 dd_Realm_breakable_0.2.2.2.2.2.2.2.2.2.2.1 rfl rfl ?_
    refine g_iload_n (pc := 15) 3 dd_Realm_breakable_0.2.2.2.2.2.2.2.2.2.2.2.1 rfl rfl ?_
    obtain ⟨u4, e3, hf⟩ := bd1_e hf
    obtain ⟨x7, h5, e6, hf⟩ := bd2_e hf
    refine g_callV (pc := 16) (ci := 4) [.int b1, .int b3] (site_of si_Realm_ableAlone (by decide) (by decide)) wd_550 wd_551 wd_552 dd_Realm_breakable_0.2.2.2.2.2.2.2.2.2.2.2.2.1 rfl e3 (Nat.le_of_ble_eq_true rfl) (fun z => absurd z si_na_Realm_ableAlone) (fun z => absurd z si_na_Realm_ableAlone) (fun z => absurd z si_na_Realm_ableAlone) (c_Realm_ableAlone e6) rfl ?_
    refine g_st [.int x7, .int b2] rfl ?_
    refine g_ifle (pc := 19) 28 dd_Realm_breakable_0.2.2.2.2.2.2.2.2.2.2.2.2.2.1 (by decide) (fun c8 => ?_) (fun c8 => ?_)
    · replace hf := (if_pos c8).symm.trans hf
      refine g_iconst (pc := 28) (0 : Int32) dd_Realm_breakable_0.2.2.2.2.2.2.2.2.2.2.2.2.2.2.2.2.2.2.1 (by decide) ?_
      refine g_lv [0, 1, 3] rfl ?_
      exact t_Realm_breakable_29 rec4 hrec4 _ _ _ _ _ _ _ _  hf
    · replace hf := (if_neg c8).symm.trans hf
      refine g_iconst (pc := 22) (1 : Int32) dd_Realm_breakable_0.2.2.2.2.2.2.2.2.2.2.2.2.2.2.1 (by decide) ?_
      refine g_iload_n (pc := 23) 3 dd_Realm_breakable_0.2.2.2.2.2.2.2.2.2.2.2.2.2.2.2.1 rfl rfl ?_
      refine g_ishl (pc := 24) dd_Realm_breakable_0.2.2.2.2.2.2.2.2.2.2.2.2.2.2.2.2.1 ?_
      refine g_goto (pc := 25) 29 dd_Realm_breakable_0.2.2.2.2.2.2.2.2.2.2.2.2.2.2.2.2.2.1 (by decide) ?_
      refine g_lv [0, 1, 3] rfl ?_
      exact t_Realm_breakable_29 rec4 hrec4 _ _ _ _ _ _ _ _  hf
def f_Realm_breakable_4  : Nat → Nat → Int32 → Int32 → Int32 → mH → Option (Int32 × mH)
  | 0 => fun _ _ _ _ _ => none
  | n + 1 => f_Realm_breakable_4b  (f_Realm_breakable_4  n)
theorem t_Realm_breakable_4 {sc : Nat × (Nat → Int32)}  : ∀ (n : Nat) (b0 : Nat) (b1 : Int32) (b2 : Int32) (b3 : Int32) (h : mH) (r : Int32) (h' : mH) (hf : f_Realm_breakable_4  n b0 b1 b2 b3 h = some (r, h')), G sc y_Realm_breakable prog_5_method_18_code 4 (some .int) 3 67 4 [(0, .ref b0), (1, .int b1), (2, .int b2), (3, .int b3)] [] h (some (.int r)) h'
  | 0, _, _, _, _, _, _, _, hf => by cases hf
  | n + 1, _, _, _, _, _, _, _, hf => t_Realm_breakable_4b  (f_Realm_breakable_4  n) (t_Realm_breakable_4  n) _ _ _ _ _ _ _ hf
def f_Realm_breakable_0  (a0 : Nat) (a1 : Int32) (h : mH) : Option (Int32 × mH) :=
  f_Realm_breakable_4  FU a0 a1 (0 : Int32) (0 : Int32) h
set_option maxRecDepth 20000 in
theorem t_Realm_breakable_0 {sc : Nat × (Nat → Int32)}  (a0 : Nat) (a1 : Int32) (h : mH) (r : Int32) (h' : mH) (hf : f_Realm_breakable_0  a0 a1 h = some (r, h')) : G sc y_Realm_breakable prog_5_method_18_code 4 (some .int) 3 67 0 [(0, .ref a0), (1, .int a1)] [] h (some (.int r)) h' := by
  unfold f_Realm_breakable_0 at hf
  refine g_iconst (pc := 0) (0 : Int32) dd_Realm_breakable_0.1 (by decide) ?_
  refine g_istore_n (pc := 1) [(2, .int (0 : Int32)), (0, .ref a0), (1, .int a1)] dd_Realm_breakable_0.2.1 rfl (Nat.le_of_ble_eq_true rfl) rfl ?_
  refine g_iconst (pc := 2) (0 : Int32) dd_Realm_breakable_0.2.2.1 (by decide) ?_
  refine g_istore_n (pc := 3) [(3, .int (0 : Int32)), (2, .int (0 : Int32)), (0, .ref a0), (1, .int a1)] dd_Realm_breakable_0.2.2.2.1 rfl (Nat.le_of_ble_eq_true rfl) rfl ?_
  refine g_lv [2, 3, 1, 0] rfl ?_
  exact t_Realm_breakable_4  FU _ _ _ _ _ _ _  hf
def f_Realm_breakable (a0 : Nat) (a1 : Int32) (h : mH) : Option (Int32 × mH) := f_Realm_breakable_0 a0 a1 h
theorem c_Realm_breakable {sc : Nat × (Nat → Int32)} {a0 : Nat} {a1 : Int32} {h : mH} {r : Int32} {h' : mH} (hf : f_Realm_breakable a0 a1 h = some (r, h')) : MM sc y_Realm_breakable prog_5_method_18_code 4 (some .int) 3 67 [.ref a0, .int a1] h (some (.int r)) h' :=
  mm_of_G si_pn_Realm (Nat.le_of_ble_eq_true rfl) (t_Realm_breakable_0 _ _ _ _ _ hf)
/-! Q one (II)I -/
set_option maxRecDepth 100000 in
theorem dd_Q_one_0 : (decode prog_1_method_8_code 0 = .ok (.aload_n 0, 1)) ∧ (decode prog_1_method_8_code 1 = .ok (.getfield 19, 3)) ∧ (decode prog_1_method_8_code 4 = .ok (.iload_n 1, 1)) ∧ (decode prog_1_method_8_code 5 = .ok (.invokevirtual 135, 3)) ∧ (decode prog_1_method_8_code 8 = .ok (.ifCond .ne 5, 3)) ∧ (decode prog_1_method_8_code 11 = .ok (.iconst (-1), 1)) ∧ (decode prog_1_method_8_code 12 = .ok (.ireturn, 1)) ∧ (decode prog_1_method_8_code 13 = .ok (.iload_n 2, 1)) ∧ (decode prog_1_method_8_code 14 = .ok (.tableswitch 124 0 7 #[46, 56, 66, 76, 86, 96, 106, 115], 46)) ∧ (decode prog_1_method_8_code 60 = .ok (.aload_n 0, 1)) ∧ (decode prog_1_method_8_code 61 = .ok (.getfield 19, 3)) ∧ (decode prog_1_method_8_code 64 = .ok (.getfield 138, 3)) ∧ (decode prog_1_method_8_code 67 = .ok (.iload_n 1, 1)) ∧ (decode prog_1_method_8_code 68 = .ok (.iaload, 1)) ∧ (decode prog_1_method_8_code 69 = .ok (.ireturn, 1)) ∧ (decode prog_1_method_8_code 70 = .ok (.aload_n 0, 1)) ∧ (decode prog_1_method_8_code 71 = .ok (.getfield 19, 3)) ∧ (decode prog_1_method_8_code 74 = .ok (.getfield 141, 3)) ∧ (decode prog_1_method_8_code 77 = .ok (.iload_n 1, 1)) ∧ (decode prog_1_method_8_code 78 = .ok (.iaload, 1)) ∧ (decode prog_1_method_8_code 79 = .ok (.ireturn, 1)) ∧ (decode prog_1_method_8_code 80 = .ok (.aload_n 0, 1)) ∧ (decode prog_1_method_8_code 81 = .ok (.getfield 19, 3)) ∧ (decode prog_1_method_8_code 84 = .ok (.getfield 144, 3)) := by
  have h : List.drop 0 prog_1_method_8_code.data.toList = 0x2a :: _ := rfl
  refine ⟨zq_k_n 42 h rfl (zq_o_42 _), ?_⟩
  replace h := zq_nx1 (q := 1) h rfl
  refine ⟨zq_k_u2 180 (fun z => .getfield z) 19 h rfl (zq_o_180 _) (by decide +kernel), ?_⟩
  replace h := zq_nx3 (q := 4) h rfl
  refine ⟨zq_k_n 27 h rfl (zq_o_27 _), ?_⟩
  replace h := zq_nx1 (q := 5) h rfl
  refine ⟨zq_k_u2 182 (fun z => .invokevirtual z) 135 h rfl (zq_o_182 _) (by decide +kernel), ?_⟩
  replace h := zq_nx3 (q := 8) h rfl
  refine ⟨zq_k_s2 154 (fun z => .ifCond .ne z) 5 h rfl (zq_o_154 _) (by decide +kernel), ?_⟩
  replace h := zq_nx3 (q := 11) h rfl
  refine ⟨zq_k_n 2 h rfl (zq_o_2 _), ?_⟩
  replace h := zq_nx1 (q := 12) h rfl
  refine ⟨zq_k_n 172 h rfl (zq_o_172 _), ?_⟩
  replace h := zq_nx1 (q := 13) h rfl
  refine ⟨zq_k_n 28 h rfl (zq_o_28 _), ?_⟩
  replace h := zq_nx1 (q := 14) h rfl
  refine ⟨by decide +kernel, ?_⟩
  have h : List.drop 60 prog_1_method_8_code.data.toList = 0x2a :: _ := rfl
  refine ⟨zq_k_n 42 h rfl (zq_o_42 _), ?_⟩
  replace h := zq_nx1 (q := 61) h rfl
  refine ⟨zq_k_u2 180 (fun z => .getfield z) 19 h rfl (zq_o_180 _) (by decide +kernel), ?_⟩
  replace h := zq_nx3 (q := 64) h rfl
  refine ⟨zq_k_u2 180 (fun z => .getfield z) 138 h rfl (zq_o_180 _) (by decide +kernel), ?_⟩
  replace h := zq_nx3 (q := 67) h rfl
  refine ⟨zq_k_n 27 h rfl (zq_o_27 _), ?_⟩
  replace h := zq_nx1 (q := 68) h rfl
  refine ⟨zq_k_n 46 h rfl (zq_o_46 _), ?_⟩
  replace h := zq_nx1 (q := 69) h rfl
  refine ⟨zq_k_n 172 h rfl (zq_o_172 _), ?_⟩
  replace h := zq_nx1 (q := 70) h rfl
  refine ⟨zq_k_n 42 h rfl (zq_o_42 _), ?_⟩
  replace h := zq_nx1 (q := 71) h rfl
  refine ⟨zq_k_u2 180 (fun z => .getfield z) 19 h rfl (zq_o_180 _) (by decide +kernel), ?_⟩
  replace h := zq_nx3 (q := 74) h rfl
  refine ⟨zq_k_u2 180 (fun z => .getfield z) 141 h rfl (zq_o_180 _) (by decide +kernel), ?_⟩
  replace h := zq_nx3 (q := 77) h rfl
  refine ⟨zq_k_n 27 h rfl (zq_o_27 _), ?_⟩
  replace h := zq_nx1 (q := 78) h rfl
  refine ⟨zq_k_n 46 h rfl (zq_o_46 _), ?_⟩
  replace h := zq_nx1 (q := 79) h rfl
  refine ⟨zq_k_n 172 h rfl (zq_o_172 _), ?_⟩
  replace h := zq_nx1 (q := 80) h rfl
  refine ⟨zq_k_n 42 h rfl (zq_o_42 _), ?_⟩
  replace h := zq_nx1 (q := 81) h rfl
  refine ⟨zq_k_u2 180 (fun z => .getfield z) 19 h rfl (zq_o_180 _) (by decide +kernel), ?_⟩
  replace h := zq_nx3 (q := 84) h rfl
  exact zq_k_u2 180 (fun z => .getfield z) 144 h rfl (zq_o_180 _) (by decide +kernel)
set_option maxRecDepth 100000 in
theorem dd_Q_one_87 : (decode prog_1_method_8_code 87 = .ok (.iload_n 1, 1)) ∧ (decode prog_1_method_8_code 88 = .ok (.iaload, 1)) ∧ (decode prog_1_method_8_code 89 = .ok (.ireturn, 1)) ∧ (decode prog_1_method_8_code 90 = .ok (.aload_n 0, 1)) ∧ (decode prog_1_method_8_code 91 = .ok (.getfield 19, 3)) ∧ (decode prog_1_method_8_code 94 = .ok (.getfield 147, 3)) ∧ (decode prog_1_method_8_code 97 = .ok (.iload_n 1, 1)) ∧ (decode prog_1_method_8_code 98 = .ok (.iaload, 1)) ∧ (decode prog_1_method_8_code 99 = .ok (.ireturn, 1)) ∧ (decode prog_1_method_8_code 100 = .ok (.aload_n 0, 1)) ∧ (decode prog_1_method_8_code 101 = .ok (.getfield 19, 3)) ∧ (decode prog_1_method_8_code 104 = .ok (.getfield 150, 3)) ∧ (decode prog_1_method_8_code 107 = .ok (.iload_n 1, 1)) ∧ (decode prog_1_method_8_code 108 = .ok (.iaload, 1)) ∧ (decode prog_1_method_8_code 109 = .ok (.ireturn, 1)) ∧ (decode prog_1_method_8_code 110 = .ok (.aload_n 0, 1)) ∧ (decode prog_1_method_8_code 111 = .ok (.getfield 19, 3)) ∧ (decode prog_1_method_8_code 114 = .ok (.getfield 153, 3)) ∧ (decode prog_1_method_8_code 117 = .ok (.iload_n 1, 1)) ∧ (decode prog_1_method_8_code 118 = .ok (.iaload, 1)) ∧ (decode prog_1_method_8_code 119 = .ok (.ireturn, 1)) ∧ (decode prog_1_method_8_code 120 = .ok (.aload_n 0, 1)) ∧ (decode prog_1_method_8_code 121 = .ok (.getfield 19, 3)) ∧ (decode prog_1_method_8_code 124 = .ok (.iload_n 1, 1)) := by
  have h : List.drop 87 prog_1_method_8_code.data.toList = 0x1b :: _ := rfl
  refine ⟨zq_k_n 27 h rfl (zq_o_27 _), ?_⟩
  replace h := zq_nx1 (q := 88) h rfl
  refine ⟨zq_k_n 46 h rfl (zq_o_46 _), ?_⟩
  replace h := zq_nx1 (q := 89) h rfl
  refine ⟨zq_k_n 172 h rfl (zq_o_172 _), ?_⟩
  replace h := zq_nx1 (q := 90) h rfl
  refine ⟨zq_k_n 42 h rfl (zq_o_42 _), ?_⟩
  replace h := zq_nx1 (q := 91) h rfl
  refine ⟨zq_k_u2 180 (fun z => .getfield z) 19 h rfl (zq_o_180 _) (by decide +kernel), ?_⟩
  replace h := zq_nx3 (q := 94) h rfl
  refine ⟨zq_k_u2 180 (fun z => .getfield z) 147 h rfl (zq_o_180 _) (by decide +kernel), ?_⟩
  replace h := zq_nx3 (q := 97) h rfl
  refine ⟨zq_k_n 27 h rfl (zq_o_27 _), ?_⟩
  replace h := zq_nx1 (q := 98) h rfl
  refine ⟨zq_k_n 46 h rfl (zq_o_46 _), ?_⟩
  replace h := zq_nx1 (q := 99) h rfl
  refine ⟨zq_k_n 172 h rfl (zq_o_172 _), ?_⟩
  replace h := zq_nx1 (q := 100) h rfl
  refine ⟨zq_k_n 42 h rfl (zq_o_42 _), ?_⟩
  replace h := zq_nx1 (q := 101) h rfl
  refine ⟨zq_k_u2 180 (fun z => .getfield z) 19 h rfl (zq_o_180 _) (by decide +kernel), ?_⟩
  replace h := zq_nx3 (q := 104) h rfl
  refine ⟨zq_k_u2 180 (fun z => .getfield z) 150 h rfl (zq_o_180 _) (by decide +kernel), ?_⟩
  replace h := zq_nx3 (q := 107) h rfl
  refine ⟨zq_k_n 27 h rfl (zq_o_27 _), ?_⟩
  replace h := zq_nx1 (q := 108) h rfl
  refine ⟨zq_k_n 46 h rfl (zq_o_46 _), ?_⟩
  replace h := zq_nx1 (q := 109) h rfl
  refine ⟨zq_k_n 172 h rfl (zq_o_172 _), ?_⟩
  replace h := zq_nx1 (q := 110) h rfl
  refine ⟨zq_k_n 42 h rfl (zq_o_42 _), ?_⟩
  replace h := zq_nx1 (q := 111) h rfl
  refine ⟨zq_k_u2 180 (fun z => .getfield z) 19 h rfl (zq_o_180 _) (by decide +kernel), ?_⟩
  replace h := zq_nx3 (q := 114) h rfl
  refine ⟨zq_k_u2 180 (fun z => .getfield z) 153 h rfl (zq_o_180 _) (by decide +kernel), ?_⟩
  replace h := zq_nx3 (q := 117) h rfl
  refine ⟨zq_k_n 27 h rfl (zq_o_27 _), ?_⟩
  replace h := zq_nx1 (q := 118) h rfl
  refine ⟨zq_k_n 46 h rfl (zq_o_46 _), ?_⟩
  replace h := zq_nx1 (q := 119) h rfl
  refine ⟨zq_k_n 172 h rfl (zq_o_172 _), ?_⟩
  replace h := zq_nx1 (q := 120) h rfl
  refine ⟨zq_k_n 42 h rfl (zq_o_42 _), ?_⟩
  replace h := zq_nx1 (q := 121) h rfl
  refine ⟨zq_k_u2 180 (fun z => .getfield z) 19 h rfl (zq_o_180 _) (by decide +kernel), ?_⟩
  replace h := zq_nx3 (q := 124) h rfl
  exact zq_k_n 27 h rfl (zq_o_27 _)
set_option maxRecDepth 100000 in
theorem dd_Q_one_125 : (decode prog_1_method_8_code 125 = .ok (.invokevirtual 156, 3)) ∧ (decode prog_1_method_8_code 128 = .ok (.ireturn, 1)) ∧ (decode prog_1_method_8_code 129 = .ok (.aload_n 0, 1)) ∧ (decode prog_1_method_8_code 130 = .ok (.getfield 19, 3)) ∧ (decode prog_1_method_8_code 133 = .ok (.iload_n 1, 1)) ∧ (decode prog_1_method_8_code 134 = .ok (.invokevirtual 159, 3)) ∧ (decode prog_1_method_8_code 137 = .ok (.ireturn, 1)) ∧ (decode prog_1_method_8_code 138 = .ok (.iconst (-1), 1)) ∧ (decode prog_1_method_8_code 139 = .ok (.ireturn, 1)) := by
  have h : List.drop 125 prog_1_method_8_code.data.toList = 0xb6 :: _ := rfl
  refine ⟨zq_k_u2 182 (fun z => .invokevirtual z) 156 h rfl (zq_o_182 _) (by decide +kernel), ?_⟩
  replace h := zq_nx3 (q := 128) h rfl
  refine ⟨zq_k_n 172 h rfl (zq_o_172 _), ?_⟩
  replace h := zq_nx1 (q := 129) h rfl
  refine ⟨zq_k_n 42 h rfl (zq_o_42 _), ?_⟩
  replace h := zq_nx1 (q := 130) h rfl
  refine ⟨zq_k_u2 180 (fun z => .getfield z) 19 h rfl (zq_o_180 _) (by decide +kernel), ?_⟩
  replace h := zq_nx3 (q := 133) h rfl
  refine ⟨zq_k_n 27 h rfl (zq_o_27 _), ?_⟩
  replace h := zq_nx1 (q := 134) h rfl
  refine ⟨zq_k_u2 182 (fun z => .invokevirtual z) 159 h rfl (zq_o_182 _) (by decide +kernel), ?_⟩
  replace h := zq_nx3 (q := 137) h rfl
  refine ⟨zq_k_n 172 h rfl (zq_o_172 _), ?_⟩
  replace h := zq_nx1 (q := 138) h rfl
  refine ⟨zq_k_n 2 h rfl (zq_o_2 _), ?_⟩
  replace h := zq_nx1 (q := 139) h rfl
  exact zq_k_n 172 h rfl (zq_o_172 _)
def f_Q_one_0  (a0 : Nat) (a1 : Int32) (a2 : Int32) (h : mH) : Option (Int32 × mH) :=
  bd1 (gR h a0 0 1) fun x1 =>
  bd1 (kC h x1 4) fun _ =>
  bd2 (f_Realm_hasOne x1 a1 h) fun x7 h5 =>
  if x7 = 0 then
    some (((-1) : Int32), h5)
  else
    if a2 = (0 : Int32) then
      bd1 (gR h5 a0 0 1) fun x9 =>
      bd1 (gR h5 x9 4 11) fun x11 =>
      bd1 (aI h5 0 x11 a1) fun x13 =>
      some (x13, h5)
    else
    if a2 = (1 : Int32) then
      bd1 (gR h5 a0 0 1) fun x16 =>
      bd1 (gR h5 x16 4 12) fun x18 =>
      bd1 (aI h5 0 x18 a1) fun x20 =>
      some (x20, h5)
    else
    if a2 = (2 : Int32) then
      bd1 (gR h5 a0 0 1) fun x23 =>
      bd1 (gR h5 x23 4 13) fun x25 =>
      bd1 (aI h5 0 x25 a1) fun x27 =>
      some (x27, h5)
    else
    if a2 = (3 : Int32) then
      bd1 (gR h5 a0 0 1) fun x30 =>
      bd1 (gR h5 x30 4 14) fun x32 =>
      bd1 (aI h5 0 x32 a1) fun x34 =>
      some (x34, h5)
    else
    if a2 = (4 : Int32) then
      bd1 (gR h5 a0 0 1) fun x37 =>
      bd1 (gR h5 x37 4 15) fun x39 =>
      bd1 (aI h5 0 x39 a1) fun x41 =>
      some (x41, h5)
    else
    if a2 = (5 : Int32) then
      bd1 (gR h5 a0 0 1) fun x44 =>
      bd1 (gR h5 x44 4 16) fun x46 =>
      bd1 (aI h5 0 x46 a1) fun x48 =>
      some (x48, h5)
    else
    if a2 = (6 : Int32) then
      bd1 (gR h5 a0 0 1) fun x51 =>
      bd1 (kC h5 x51 4) fun _ =>
      bd2 (f_Realm_brokenByOne x51 a1 h5) fun x57 h55 =>
      some (x57, h55)
    else
    if a2 = (7 : Int32) then
      bd1 (gR h5 a0 0 1) fun x59 =>
      bd1 (kC h5 x59 4) fun _ =>
      bd2 (f_Realm_breakable x59 a1 h5) fun x65 h63 =>
      some (x65, h63)
    else
    some (((-1) : Int32), h5)
set_option maxRecDepth 20000 in
theorem t_Q_one_0 {sc : Nat × (Nat → Int32)}  (a0 : Nat) (a1 : Int32) (a2 : Int32) (h : mH) (r : Int32) (h' : mH) (hf : f_Q_one_0  a0 a1 a2 h = some (r, h')) : G sc y_Q_one prog_1_method_8_code 3 (some .int) 4 90 0 [(0, .ref a0), (1, .int a1), (2, .int a2)] [] h (some (.int r)) h' := by
  unfold f_Q_one_0 at hf
  refine g_aload_n (pc := 0) 0 dd_Q_one_0.1 rfl rfl ?_
  obtain ⟨x1, e2, hf⟩ := bd1_e hf
  refine g_get (pc := 1) (ci := 0) (kk := 1) dd_Q_one_0.2.1 rfl in_Q (by decide) wd_297 (gR_spec e2) ?_
  refine g_iload_n (pc := 4) 1 dd_Q_one_0.2.2.1 rfl rfl ?_
  obtain ⟨u4, e3, hf⟩ := bd1_e hf
  obtain ⟨x7, h5, e6, hf⟩ := bd2_e hf
  refine g_callV (pc := 5) (ci := 4) [.int a1] (site_of si_Realm_hasOne (by decide) (by decide)) wd_541 wd_492 wd_493 dd_Q_one_0.2.2.2.1 rfl e3 (Nat.le_of_ble_eq_true rfl) (fun z => absurd z si_na_Realm_hasOne) (fun z => absurd z si_na_Realm_hasOne) (fun z => absurd z si_na_Realm_hasOne) (c_Realm_hasOne e6) rfl ?_
  refine g_st [.int x7] rfl ?_
  refine g_ifne (pc := 8) 13 dd_Q_one_0.2.2.2.2.1 (by decide) (fun c66 => ?_) (fun c66 => ?_)
  · replace hf := (if_neg c66).symm.trans hf
    refine g_iload_n (pc := 13) 2 dd_Q_one_0.2.2.2.2.2.2.2.1 rfl rfl ?_
    by_cases c8 : a2 = (0 : Int32)
    · replace hf := (if_pos c8).symm.trans hf
      refine g_tabIn (pc := 14) 60 (0 : Int32) dd_Q_one_0.2.2.2.2.2.2.2.2.1 c8 (by decide) (by decide) rfl (by decide) ?_
      refine g_aload_n (pc := 60) 0 dd_Q_one_0.2.2.2.2.2.2.2.2.2.1 rfl rfl ?_
      obtain ⟨x9, e10, hf⟩ := bd1_e hf
      refine g_get (pc := 61) (ci := 0) (kk := 1) dd_Q_one_0.2.2.2.2.2.2.2.2.2.2.1 rfl in_Q (by decide) wd_297 (gR_spec e10) ?_
      obtain ⟨x11, e12, hf⟩ := bd1_e hf
      refine g_get (pc := 64) (ci := 4) (kk := 11) dd_Q_one_0.2.2.2.2.2.2.2.2.2.2.2.1 rfl in_Realm (by decide) wd_133 (gR_spec e12) ?_
      refine g_iload_n (pc := 67) 1 dd_Q_one_0.2.2.2.2.2.2.2.2.2.2.2.2.1 rfl rfl ?_
      obtain ⟨x13, e14, hf⟩ := bd1_e hf
      refine g_iald (pc := 68) dd_Q_one_0.2.2.2.2.2.2.2.2.2.2.2.2.2.1 e14 ?_
      obtain ⟨rfl, rfl⟩ := ret2 hf
      exact g_iret (pc := 69) rfl dd_Q_one_0.2.2.2.2.2.2.2.2.2.2.2.2.2.2.1
    replace hf := (if_neg c8).symm.trans hf
    by_cases c15 : a2 = (1 : Int32)
    · replace hf := (if_pos c15).symm.trans hf
      refine g_tabIn (pc := 14) 70 (1 : Int32) dd_Q_one_0.2.2.2.2.2.2.2.2.1 c15 (by decide) (by decide) rfl (by decide) ?_
      refine g_aload_n (pc := 70) 0 dd_Q_one_0.2.2.2.2.2.2.2.2.2.2.2.2.2.2.2.1 rfl rfl ?_
      obtain ⟨x16, e17, hf⟩ := bd1_e hf
      refine g_get (pc := 71) (ci := 0) (kk := 1) dd_Q_one_0.2.2.2.2.2.2.2.2.2.2.2.2.2.2.2.2.1 rfl in_Q (by decide) wd_297 (gR_spec e17) ?_
      obtain ⟨x18, e19, hf⟩ := bd1_e hf
      refine g_get (pc := 74) (ci := 4) (kk := 12) dd_Q_one_0.2.2.2.2.2.2.2.2.2.2.2.2.2.2.2.2.2.1 rfl in_Realm (by decide) wd_137 (gR_spec e19) ?_
      refine g_iload_n (pc := 77) 1 dd_Q_one_0.2.2.2.2.2.2.2.2.2.2.2.2.2.2.2.2.2.2.1 rfl rfl ?_
      obtain ⟨x20, e21, hf⟩ := bd1_e hf
      refine g_iald (pc := 78) dd_Q_one_0.2.2.2.2.2.2.2.2.2.2.2.2.2.2.2.2.2.2.2.1 e21 ?_
      obtain ⟨rfl, rfl⟩ := ret2 hf
      exact g_iret (pc := 79) rfl dd_Q_one_0.2.2.2.2.2.2.2.2.2.2.2.2.2.2.2.2.2.2.2.2.1
    replace hf := (if_neg c15).symm.trans hf
    by_cases c22 : a2 = (2 : Int32)
    · replace hf := (if_pos c22).symm.trans hf
      refine g_tabIn (pc := 14) 80 (2 : Int32) dd_Q_one_0.2.2.2.2.2.2.2.2.1 c22 (by decide) (by decide) rfl (by decide) ?_
      refine g_aload_n (pc := 80) 0 dd_Q_one_0.2.2.2.2.2.2.2.2.2.2.2.2.2.2.2.2.2.2.2.2.2.1 rfl rfl ?_
      obtain ⟨x23, e24, hf⟩ := bd1_e hf
      refine g_get (pc := 81) (ci := 0) (kk := 1) dd_Q_one_0.2.2.2.2.2.2.2.2.2.2.2.2.2.2.2.2.2.2.2.2.2.2.1 rfl in_Q (by decide) wd_297 (gR_spec e24) ?_
      obtain ⟨x25, e26, hf⟩ := bd1_e hf
      refine g_get (pc := 84) (ci := 4) (kk := 13) dd_Q_one_0.2.2.2.2.2.2.2.2.2.2.2.2.2.2.2.2.2.2.2.2.2.2.2 rfl in_Realm (by decide) wd_141 (gR_spec e26) ?_
      refine g_iload_n (pc := 87) 1 dd_Q_one_87.1 rfl rfl ?_
      obtain ⟨x27, e28, hf⟩ := bd1_e hf
      refine g_iald (pc := 88) dd_Q_one_87.2.1 e28 ?_
      obtain ⟨rfl, rfl⟩ := ret2 hf
      exact g_iret (pc := 89) rfl dd_Q_one_87.2.2.1
    replace hf := (if_neg c22).symm.trans hf
    by_cases c29 : a2 = (3 : Int32)
    · replace hf := (if_pos c29).symm.trans hf
      refine g_tabIn (pc := 14) 90 (3 : Int32) dd_Q_one_0.2.2.2.2.2.2.2.2.1 c29 (by decide) (by decide) rfl (by decide) ?_
      refine g_aload_n (pc := 90) 0 dd_Q_one_87.2.2.2.1 rfl rfl ?_
      obtain ⟨x30, e31, hf⟩ := bd1_e hf
      refine g_get (pc := 91) (ci := 0) (kk := 1) dd_Q_one_87.2.2.2.2.1 rfl in_Q (by decide) wd_297 (gR_spec e31) ?_
      obtain ⟨x32, e33, hf⟩ := bd1_e hf
      refine g_get (pc := 94) (ci := 4) (kk := 14) dd_Q_one_87.2.2.2.2.2.1 rfl in_Realm (by decide) wd_144 (gR_spec e33) ?_
      refine g_iload_n (pc := 97) 1 dd_Q_one_87.2.2.2.2.2.2.1 rfl rfl ?_
      obtain ⟨x34, e35, hf⟩ := bd1_e hf
      refine g_iald (pc := 98) dd_Q_one_87.2.2.2.2.2.2.2.1 e35 ?_
      obtain ⟨rfl, rfl⟩ := ret2 hf
      exact g_iret (pc := 99) rfl dd_Q_one_87.2.2.2.2.2.2.2.2.1
    replace hf := (if_neg c29).symm.trans hf
    by_cases c36 : a2 = (4 : Int32)
    · replace hf := (if_pos c36).symm.trans hf
      refine g_tabIn (pc := 14) 100 (4 : Int32) dd_Q_one_0.2.2.2.2.2.2.2.2.1 c36 (by decide) (by decide) rfl (by decide) ?_
      refine g_aload_n (pc := 100) 0 dd_Q_one_87.2.2.2.2.2.2.2.2.2.1 rfl rfl ?_
      obtain ⟨x37, e38, hf⟩ := bd1_e hf
      refine g_get (pc := 101) (ci := 0) (kk := 1) dd_Q_one_87.2.2.2.2.2.2.2.2.2.2.1 rfl in_Q (by decide) wd_297 (gR_spec e38) ?_
      obtain ⟨x39, e40, hf⟩ := bd1_e hf
      refine g_get (pc := 104) (ci := 4) (kk := 15) dd_Q_one_87.2.2.2.2.2.2.2.2.2.2.2.1 rfl in_Realm (by decide) wd_148 (gR_spec e40) ?_
      refine g_iload_n (pc := 107) 1 dd_Q_one_87.2.2.2.2.2.2.2.2.2.2.2.2.1 rfl rfl ?_
      obtain ⟨x41, e42, hf⟩ := bd1_e hf
      refine g_iald (pc := 108) dd_Q_one_87.2.2.2.2.2.2.2.2.2.2.2.2.2.1 e42 ?_
      obtain ⟨rfl, rfl⟩ := ret2 hf
      exact g_iret (pc := 109) rfl dd_Q_one_87.2.2.2.2.2.2.2.2.2.2.2.2.2.2.1
    replace hf := (if_neg c36).symm.trans hf
    by_cases c43 : a2 = (5 : Int32)
    · replace hf := (if_pos c43).symm.trans hf
      refine g_tabIn (pc := 14) 110 (5 : Int32) dd_Q_one_0.2.2.2.2.2.2.2.2.1 c43 (by decide) (by decide) rfl (by decide) ?_
      refine g_aload_n (pc := 110) 0 dd_Q_one_87.2.2.2.2.2.2.2.2.2.2.2.2.2.2.2.1 rfl rfl ?_
      obtain ⟨x44, e45, hf⟩ := bd1_e hf
      refine g_get (pc := 111) (ci := 0) (kk := 1) dd_Q_one_87.2.2.2.2.2.2.2.2.2.2.2.2.2.2.2.2.1 rfl in_Q (by decide) wd_297 (gR_spec e45) ?_
      obtain ⟨x46, e47, hf⟩ := bd1_e hf
      refine g_get (pc := 114) (ci := 4) (kk := 16) dd_Q_one_87.2.2.2.2.2.2.2.2.2.2.2.2.2.2.2.2.2.1 rfl in_Realm (by decide) wd_151 (gR_spec e47) ?_
      refine g_iload_n (pc := 117) 1 dd_Q_one_87.2.2.2.2.2.2.2.2.2.2.2.2.2.2.2.2.2.2.1 rfl rfl ?_
      obtain ⟨x48, e49, hf⟩ := bd1_e hf
      refine g_iald (pc := 118) dd_Q_one_87.2.2.2.2.2.2.2.2.2.2.2.2.2.2.2.2.2.2.2.1 e49 ?_
      obtain ⟨rfl, rfl⟩ := ret2 hf
      exact g_iret (pc := 119) rfl dd_Q_one_87.2.2.2.2.2.2.2.2.2.2.2.2.2.2.2.2.2.2.2.2.1
    replace hf := (if_neg c43).symm.trans hf
    by_cases c50 : a2 = (6 : Int32)
    · replace hf := (if_pos c50).symm.trans hf
      refine g_tabIn (pc := 14) 120 (6 : Int32) dd_Q_one_0.2.2.2.2.2.2.2.2.1 c50 (by decide) (by decide) rfl (by decide) ?_
      refine g_aload_n (pc := 120) 0 dd_Q_one_87.2.2.2.2.2.2.2.2.2.2.2.2.2.2.2.2.2.2.2.2.2.1 rfl rfl ?_
      obtain ⟨x51, e52, hf⟩ := bd1_e hf
      refine g_get (pc := 121) (ci := 0) (kk := 1) dd_Q_one_87.2.2.2.2.2.2.2.2.2.2.2.2.2.2.2.2.2.2.2.2.2.2.1 rfl in_Q (by decide) wd_297 (gR_spec e52) ?_
      refine g_iload_n (pc := 124) 1 dd_Q_one_87.2.2.2.2.2.2.2.2.2.2.2.2.2.2.2.2.2.2.2.2.2.2.2 rfl rfl ?_
      obtain ⟨u54, e53, hf⟩ := bd1_e hf
      obtain ⟨x57, h55, e56, hf⟩ := bd2_e hf
      refine g_callV (pc := 125) (ci := 4) [.int a1] (site_of si_Realm_brokenByOne (by decide) (by decide)) wd_542 wd_543 wd_544 dd_Q_one_125.1 rfl e53 (Nat.le_of_ble_eq_true rfl) (fun z => absurd z si_na_Realm_brokenByOne) (fun z => absurd z si_na_Realm_brokenByOne) (fun z => absurd z si_na_Realm_brokenByOne) (c_Realm_brokenByOne e56) rfl ?_
      refine g_st [.int x57] rfl ?_
      obtain ⟨rfl, rfl⟩ := ret2 hf
      exact g_iret (pc := 128) rfl dd_Q_one_125.2.1
    replace hf := (if_neg c50).symm.trans hf
    by_cases c58 : a2 = (7 : Int32)
    · replace hf := (if_pos c58).symm.trans hf
      refine g_tabIn (pc := 14) 129 (7 : Int32) dd_Q_one_0.2.2.2.2.2.2.2.2.1 c58 (by decide) (by decide) rfl (by decide) ?_
      refine g_aload_n (pc := 129) 0 dd_Q_one_125.2.2.1 rfl rfl ?_
      obtain ⟨x59, e60, hf⟩ := bd1_e hf
      refine g_get (pc := 130) (ci := 0) (kk := 1) dd_Q_one_125.2.2.2.1 rfl in_Q (by decide) wd_297 (gR_spec e60) ?_
      refine g_iload_n (pc := 133) 1 dd_Q_one_125.2.2.2.2.1 rfl rfl ?_
      obtain ⟨u62, e61, hf⟩ := bd1_e hf
      obtain ⟨x65, h63, e64, hf⟩ := bd2_e hf
      refine g_callV (pc := 134) (ci := 4) [.int a1] (site_of si_Realm_breakable (by decide) (by decide)) wd_546 wd_547 wd_548 dd_Q_one_125.2.2.2.2.2.1 rfl e61 (Nat.le_of_ble_eq_true rfl) (fun z => absurd z si_na_Realm_breakable) (fun z => absurd z si_na_Realm_breakable) (fun z => absurd z si_na_Realm_breakable) (c_Realm_breakable e64) rfl ?_
      refine g_st [.int x65] rfl ?_
      obtain ⟨rfl, rfl⟩ := ret2 hf
      exact g_iret (pc := 137) rfl dd_Q_one_125.2.2.2.2.2.2.1
    replace hf := (if_neg c58).symm.trans hf
    refine g_tabOut (pc := 14) 138 8 dd_Q_one_0.2.2.2.2.2.2.2.2.1 (by decide) (fun i hi => ?_) (by decide) ?_
    · rcases (show i = 0 ∨ i = 1 ∨ i = 2 ∨ i = 3 ∨ i = 4 ∨ i = 5 ∨ i = 6 ∨ i = 7 by omega) with rfl | rfl | rfl | rfl | rfl | rfl | rfl | rfl
      · exact c8
      · exact c15
      · exact c22
      · exact c29
      · exact c36
      · exact c43
      · exact c50
      · exact c58
    refine g_iconst (pc := 138) ((-1) : Int32) dd_Q_one_125.2.2.2.2.2.2.2.1 (by decide) ?_
    obtain ⟨rfl, rfl⟩ := ret2 hf
    exact g_iret (pc := 139) rfl dd_Q_one_125.2.2.2.2.2.2.2.2
  · replace hf := (if_pos c66).symm.trans hf
    refine g_iconst (pc := 11) ((-1) : Int32) dd_Q_one_0.2.2.2.2.2.1 (by decide) ?_
    obtain ⟨rfl, rfl⟩ := ret2 hf
    exact g_iret (pc := 12) rfl dd_Q_one_0.2.2.2.2.2.2.1
def f_Q_one (a0 : Nat) (a1 : Int32) (a2 : Int32) (h : mH) : Option (Int32 × mH) := f_Q_one_0 a0 a1 a2 h
theorem c_Q_one {sc : Nat × (Nat → Int32)} {a0 : Nat} {a1 : Int32} {a2 : Int32} {h : mH} {r : Int32} {h' : mH} (hf : f_Q_one a0 a1 a2 h = some (r, h')) : MM sc y_Q_one prog_1_method_8_code 3 (some .int) 4 90 [.ref a0, .int a1, .int a2] h (some (.int r)) h' :=
  mm_of_G si_pn_Q (Nat.le_of_ble_eq_true rfl) (t_Q_one_0 _ _ _ _ _ _ hf)
/-! Realm hasBoth (II)Z -/
set_option maxRecDepth 100000 in
theorem dd_Realm_hasBoth_0 : (decode prog_5_method_6_code 0 = .ok (.aload_n 0, 1)) ∧ (decode prog_5_method_6_code 1 = .ok (.iload_n 1, 1)) ∧ (decode prog_5_method_6_code 2 = .ok (.invokevirtual 93, 3)) ∧ (decode prog_5_method_6_code 5 = .ok (.ifCond .eq 15, 3)) ∧ (decode prog_5_method_6_code 8 = .ok (.aload_n 0, 1)) ∧ (decode prog_5_method_6_code 9 = .ok (.iload_n 2, 1)) ∧ (decode prog_5_method_6_code 10 = .ok (.invokevirtual 97, 3)) ∧ (decode prog_5_method_6_code 13 = .ok (.ifCond .eq 7, 3)) ∧ (decode prog_5_method_6_code 16 = .ok (.iconst 1, 1)) ∧ (decode prog_5_method_6_code 17 = .ok (.goto 4, 3)) ∧ (decode prog_5_method_6_code 20 = .ok (.iconst 0, 1)) ∧ (decode prog_5_method_6_code 21 = .ok (.ireturn, 1)) := by
  have h : List.drop 0 prog_5_method_6_code.data.toList = 0x2a :: _ := rfl
  refine ⟨zq_k_n 42 h rfl (zq_o_42 _), ?_⟩
  replace h := zq_nx1 (q := 1) h rfl
  refine ⟨zq_k_n 27 h rfl (zq_o_27 _), ?_⟩
  replace h := zq_nx1 (q := 2) h rfl
  refine ⟨zq_k_u2 182 (fun z => .invokevirtual z) 93 h rfl (zq_o_182 _) (by decide +kernel), ?_⟩
  replace h := zq_nx3 (q := 5) h rfl
  refine ⟨zq_k_s2 153 (fun z => .ifCond .eq z) 15 h rfl (zq_o_153 _) (by decide +kernel), ?_⟩
  replace h := zq_nx3 (q := 8) h rfl
  refine ⟨zq_k_n 42 h rfl (zq_o_42 _), ?_⟩
  replace h := zq_nx1 (q := 9) h rfl
  refine ⟨zq_k_n 28 h rfl (zq_o_28 _), ?_⟩
  replace h := zq_nx1 (q := 10) h rfl
  refine ⟨zq_k_u2 182 (fun z => .invokevirtual z) 97 h rfl (zq_o_182 _) (by decide +kernel), ?_⟩
  replace h := zq_nx3 (q := 13) h rfl
  refine ⟨zq_k_s2 153 (fun z => .ifCond .eq z) 7 h rfl (zq_o_153 _) (by decide +kernel), ?_⟩
  replace h := zq_nx3 (q := 16) h rfl
  refine ⟨zq_k_n 4 h rfl (zq_o_4 _), ?_⟩
  replace h := zq_nx1 (q := 17) h rfl
  refine ⟨zq_k_s2 167 (fun z => .goto z) 4 h rfl (zq_o_167 _) (by decide +kernel), ?_⟩
  replace h := zq_nx3 (q := 20) h rfl
  refine ⟨zq_k_n 3 h rfl (zq_o_3 _), ?_⟩
  replace h := zq_nx1 (q := 21) h rfl
  exact zq_k_n 172 h rfl (zq_o_172 _)
def f_Realm_hasBoth_20   (h : mH) : Option (Int32 × mH) :=
  some ((0 : Int32), h)
set_option maxRecDepth 20000 in
theorem t_Realm_hasBoth_20 {sc : Nat × (Nat → Int32)}   (h : mH) (r : Int32) (h' : mH) (hf : f_Realm_hasBoth_20   h = some (r, h')) : G sc y_Realm_hasBoth prog_5_method_6_code 3 (some .boolean) 1 21 20 [] [] h (some (.int r)) h' := by
  unfold f_Realm_hasBoth_20 at hf
  refine g_iconst (pc := 20) (0 : Int32) dd_Realm_hasBoth_0.2.2.2.2.2.2.2.2.2.2.1 (by decide) ?_
  obtain ⟨rfl, rfl⟩ := ret2 hf
  exact g_zret (pc := 21) rfl rfl dd_Realm_hasBoth_0.2.2.2.2.2.2.2.2.2.2.2
def f_Realm_hasBoth_0  (a0 : Nat) (a1 : Int32) (a2 : Int32) (h : mH) : Option (Int32 × mH) :=
  bd1 (kC h a0 4) fun _ =>
  bd2 (f_Realm_hasOne a0 a1 h) fun x5 h3 =>
  if x5 = 0 then
    f_Realm_hasBoth_20  h3
  else
    bd1 (kC h3 a0 4) fun _ =>
    bd2 (f_Realm_hasLaw a0 a2 h3) fun x10 h8 =>
    if x10 = 0 then
      f_Realm_hasBoth_20  h8
    else
      some ((1 : Int32), h8)
set_option maxRecDepth 20000 in
theorem t_Realm_hasBoth_0 {sc : Nat × (Nat → Int32)}  (a0 : Nat) (a1 : Int32) (a2 : Int32) (h : mH) (r : Int32) (h' : mH) (hf : f_Realm_hasBoth_0  a0 a1 a2 h = some (r, h')) : G sc y_Realm_hasBoth prog_5_method_6_code 3 (some .boolean) 1 21 0 [(0, .ref a0), (1, .int a1), (2, .int a2)] [] h (some (.int r)) h' := by
  unfold f_Realm_hasBoth_0 at hf
  refine g_aload_n (pc := 0) 0 dd_Realm_hasBoth_0.1 rfl rfl ?_
  refine g_iload_n (pc := 1) 1 dd_Realm_hasBoth_0.2.1 rfl rfl ?_
  obtain ⟨u2, e1, hf⟩ := bd1_e hf
  obtain ⟨x5, h3, e4, hf⟩ := bd2_e hf
  refine g_callV (pc := 2) (ci := 4) [.int a1] (site_of si_Realm_hasOne (by decide) (by decide)) wd_574 wd_492 wd_493 dd_Realm_hasBoth_0.2.2.1 rfl e1 (Nat.le_of_ble_eq_true rfl) (fun z => absurd z si_na_Realm_hasOne) (fun z => absurd z si_na_Realm_hasOne) (fun z => absurd z si_na_Realm_hasOne) (c_Realm_hasOne e4) rfl ?_
  refine g_st [.int x5] rfl ?_
  refine g_ifeq (pc := 5) 20 dd_Realm_hasBoth_0.2.2.2.1 (by decide) (fun c12 => ?_) (fun c12 => ?_)
  · replace hf := (if_pos c12).symm.trans hf
    refine g_lv [] rfl ?_
    exact t_Realm_hasBoth_20  _ _ _  hf
  · replace hf := (if_neg c12).symm.trans hf
    refine g_aload_n (pc := 8) 0 dd_Realm_hasBoth_0.2.2.2.2.1 rfl rfl ?_
    refine g_iload_n (pc := 9) 2 dd_Realm_hasBoth_0.2.2.2.2.2.1 rfl rfl ?_
    obtain ⟨u7, e6, hf⟩ := bd1_e hf
    obtain ⟨x10, h8, e9, hf⟩ := bd2_e hf
    refine g_callV (pc := 10) (ci := 4) [.int a2] (site_of si_Realm_hasLaw (by decide) (by decide)) wd_536 wd_488 wd_489 dd_Realm_hasBoth_0.2.2.2.2.2.2.1 rfl e6 (Nat.le_of_ble_eq_true rfl) (fun z => absurd z si_na_Realm_hasLaw) (fun z => absurd z si_na_Realm_hasLaw) (fun z => absurd z si_na_Realm_hasLaw) (c_Realm_hasLaw e9) rfl ?_
    refine g_st [.int x10] rfl ?_
    refine g_ifeq (pc := 13) 20 dd_Realm_hasBoth_0.2.2.2.2.2.2.2.1 (by decide) (fun c11 => ?_) (fun c11 => ?_)
    · replace hf := (if_pos c11).symm.trans hf
      refine g_lv [] rfl ?_
      exact t_Realm_hasBoth_20  _ _ _  hf
    · replace hf := (if_neg c11).symm.trans hf
      refine g_iconst (pc := 16) (1 : Int32) dd_Realm_hasBoth_0.2.2.2.2.2.2.2.2.1 (by decide) ?_
      refine g_goto (pc := 17) 21 dd_Realm_hasBoth_0.2.2.2.2.2.2.2.2.2.1 (by decide) ?_
      obtain ⟨rfl, rfl⟩ := ret2 hf
      exact g_zret (pc := 21) rfl rfl dd_Realm_hasBoth_0.2.2.2.2.2.2.2.2.2.2.2
def f_Realm_hasBoth (a0 : Nat) (a1 : Int32) (a2 : Int32) (h : mH) : Option (Int32 × mH) := f_Realm_hasBoth_0 a0 a1 a2 h
theorem c_Realm_hasBoth {sc : Nat × (Nat → Int32)} {a0 : Nat} {a1 : Int32} {a2 : Int32} {h : mH} {r : Int32} {h' : mH} (hf : f_Realm_hasBoth a0 a1 a2 h = some (r, h')) : MM sc y_Realm_hasBoth prog_5_method_6_code 3 (some .boolean) 1 21 [.ref a0, .int a1, .int a2] h (some (.int r)) h' :=
  mm_of_G si_pn_Realm (Nat.le_of_ble_eq_true rfl) (t_Realm_hasBoth_0 _ _ _ _ _ _ hf)
/-! Q broken (II)I -/
set_option maxRecDepth 100000 in
theorem dd_Q_broken_0 : (decode prog_1_method_9_code 0 = .ok (.aload_n 0, 1)) ∧ (decode prog_1_method_9_code 1 = .ok (.getfield 19, 3)) ∧ (decode prog_1_method_9_code 4 = .ok (.iload_n 1, 1)) ∧ (decode prog_1_method_9_code 5 = .ok (.iload_n 2, 1)) ∧ (decode prog_1_method_9_code 6 = .ok (.invokevirtual 162, 3)) ∧ (decode prog_1_method_9_code 9 = .ok (.ifCond .eq 15, 3)) ∧ (decode prog_1_method_9_code 12 = .ok (.aload_n 0, 1)) ∧ (decode prog_1_method_9_code 13 = .ok (.getfield 19, 3)) ∧ (decode prog_1_method_9_code 16 = .ok (.iload_n 1, 1)) ∧ (decode prog_1_method_9_code 17 = .ok (.iload_n 2, 1)) ∧ (decode prog_1_method_9_code 18 = .ok (.invokevirtual 166, 3)) ∧ (decode prog_1_method_9_code 21 = .ok (.goto 4, 3)) ∧ (decode prog_1_method_9_code 24 = .ok (.iconst (-1), 1)) ∧ (decode prog_1_method_9_code 25 = .ok (.ireturn, 1)) := by
  have h : List.drop 0 prog_1_method_9_code.data.toList = 0x2a :: _ := rfl
  refine ⟨zq_k_n 42 h rfl (zq_o_42 _), ?_⟩
  replace h := zq_nx1 (q := 1) h rfl
  refine ⟨zq_k_u2 180 (fun z => .getfield z) 19 h rfl (zq_o_180 _) (by decide +kernel), ?_⟩
  replace h := zq_nx3 (q := 4) h rfl
  refine ⟨zq_k_n 27 h rfl (zq_o_27 _), ?_⟩
  replace h := zq_nx1 (q := 5) h rfl
  refine ⟨zq_k_n 28 h rfl (zq_o_28 _), ?_⟩
  replace h := zq_nx1 (q := 6) h rfl
  refine ⟨zq_k_u2 182 (fun z => .invokevirtual z) 162 h rfl (zq_o_182 _) (by decide +kernel), ?_⟩
  replace h := zq_nx3 (q := 9) h rfl
  refine ⟨zq_k_s2 153 (fun z => .ifCond .eq z) 15 h rfl (zq_o_153 _) (by decide +kernel), ?_⟩
  replace h := zq_nx3 (q := 12) h rfl
  refine ⟨zq_k_n 42 h rfl (zq_o_42 _), ?_⟩
  replace h := zq_nx1 (q := 13) h rfl
  refine ⟨zq_k_u2 180 (fun z => .getfield z) 19 h rfl (zq_o_180 _) (by decide +kernel), ?_⟩
  replace h := zq_nx3 (q := 16) h rfl
  refine ⟨zq_k_n 27 h rfl (zq_o_27 _), ?_⟩
  replace h := zq_nx1 (q := 17) h rfl
  refine ⟨zq_k_n 28 h rfl (zq_o_28 _), ?_⟩
  replace h := zq_nx1 (q := 18) h rfl
  refine ⟨zq_k_u2 182 (fun z => .invokevirtual z) 166 h rfl (zq_o_182 _) (by decide +kernel), ?_⟩
  replace h := zq_nx3 (q := 21) h rfl
  refine ⟨zq_k_s2 167 (fun z => .goto z) 4 h rfl (zq_o_167 _) (by decide +kernel), ?_⟩
  replace h := zq_nx3 (q := 24) h rfl
  refine ⟨zq_k_n 2 h rfl (zq_o_2 _), ?_⟩
  replace h := zq_nx1 (q := 25) h rfl
  exact zq_k_n 172 h rfl (zq_o_172 _)
def f_Q_broken_0  (a0 : Nat) (a1 : Int32) (a2 : Int32) (h : mH) : Option (Int32 × mH) :=
  bd1 (gR h a0 0 1) fun x1 =>
  bd1 (kC h x1 4) fun _ =>
  bd2 (f_Realm_hasBoth x1 a1 a2 h) fun x7 h5 =>
  if x7 = 0 then
    some (((-1) : Int32), h5)
  else
    bd1 (gR h5 a0 0 1) fun x8 =>
    bd1 (kC h5 x8 4) fun _ =>
    bd2 (f_Realm_brokenBy x8 a1 a2 h5) fun x14 h12 =>
    some (x14, h12)
set_option maxRecDepth 20000 in
theorem t_Q_broken_0 {sc : Nat × (Nat → Int32)}  (a0 : Nat) (a1 : Int32) (a2 : Int32) (h : mH) (r : Int32) (h' : mH) (hf : f_Q_broken_0  a0 a1 a2 h = some (r, h')) : G sc y_Q_broken prog_1_method_9_code 3 (some .int) 2 43 0 [(0, .ref a0), (1, .int a1), (2, .int a2)] [] h (some (.int r)) h' := by
  unfold f_Q_broken_0 at hf
  refine g_aload_n (pc := 0) 0 dd_Q_broken_0.1 rfl rfl ?_
  obtain ⟨x1, e2, hf⟩ := bd1_e hf
  refine g_get (pc := 1) (ci := 0) (kk := 1) dd_Q_broken_0.2.1 rfl in_Q (by decide) wd_297 (gR_spec e2) ?_
  refine g_iload_n (pc := 4) 1 dd_Q_broken_0.2.2.1 rfl rfl ?_
  refine g_iload_n (pc := 5) 2 dd_Q_broken_0.2.2.2.1 rfl rfl ?_
  obtain ⟨u4, e3, hf⟩ := bd1_e hf
  obtain ⟨x7, h5, e6, hf⟩ := bd2_e hf
  refine g_callV (pc := 6) (ci := 4) [.int a1, .int a2] (site_of si_Realm_hasBoth (by decide) (by decide)) wd_570 wd_571 wd_572 dd_Q_broken_0.2.2.2.2.1 rfl e3 (Nat.le_of_ble_eq_true rfl) (fun z => absurd z si_na_Realm_hasBoth) (fun z => absurd z si_na_Realm_hasBoth) (fun z => absurd z si_na_Realm_hasBoth) (c_Realm_hasBoth e6) rfl ?_
  refine g_st [.int x7] rfl ?_
  refine g_ifeq (pc := 9) 24 dd_Q_broken_0.2.2.2.2.2.1 (by decide) (fun c15 => ?_) (fun c15 => ?_)
  · replace hf := (if_pos c15).symm.trans hf
    refine g_iconst (pc := 24) ((-1) : Int32) dd_Q_broken_0.2.2.2.2.2.2.2.2.2.2.2.2.1 (by decide) ?_
    obtain ⟨rfl, rfl⟩ := ret2 hf
    exact g_iret (pc := 25) rfl dd_Q_broken_0.2.2.2.2.2.2.2.2.2.2.2.2.2
  · replace hf := (if_neg c15).symm.trans hf
    refine g_aload_n (pc := 12) 0 dd_Q_broken_0.2.2.2.2.2.2.1 rfl rfl ?_
    obtain ⟨x8, e9, hf⟩ := bd1_e hf
    refine g_get (pc := 13) (ci := 0) (kk := 1) dd_Q_broken_0.2.2.2.2.2.2.2.1 rfl in_Q (by decide) wd_297 (gR_spec e9) ?_
    refine g_iload_n (pc := 16) 1 dd_Q_broken_0.2.2.2.2.2.2.2.2.1 rfl rfl ?_
    refine g_iload_n (pc := 17) 2 dd_Q_broken_0.2.2.2.2.2.2.2.2.2.1 rfl rfl ?_
    obtain ⟨u11, e10, hf⟩ := bd1_e hf
    obtain ⟨x14, h12, e13, hf⟩ := bd2_e hf
    refine g_callV (pc := 18) (ci := 4) [.int a1, .int a2] (site_of si_Realm_brokenBy (by decide) (by decide)) wd_575 wd_526 wd_527 dd_Q_broken_0.2.2.2.2.2.2.2.2.2.2.1 rfl e10 (Nat.le_of_ble_eq_true rfl) (fun z => absurd z si_na_Realm_brokenBy) (fun z => absurd z si_na_Realm_brokenBy) (fun z => absurd z si_na_Realm_brokenBy) (c_Realm_brokenBy e13) rfl ?_
    refine g_st [.int x14] rfl ?_
    refine g_goto (pc := 21) 25 dd_Q_broken_0.2.2.2.2.2.2.2.2.2.2.2.1 (by decide) ?_
    obtain ⟨rfl, rfl⟩ := ret2 hf
    exact g_iret (pc := 25) rfl dd_Q_broken_0.2.2.2.2.2.2.2.2.2.2.2.2.2
def f_Q_broken (a0 : Nat) (a1 : Int32) (a2 : Int32) (h : mH) : Option (Int32 × mH) := f_Q_broken_0 a0 a1 a2 h
theorem c_Q_broken {sc : Nat × (Nat → Int32)} {a0 : Nat} {a1 : Int32} {a2 : Int32} {h : mH} {r : Int32} {h' : mH} (hf : f_Q_broken a0 a1 a2 h = some (r, h')) : MM sc y_Q_broken prog_1_method_9_code 3 (some .int) 2 43 [.ref a0, .int a1, .int a2] h (some (.int r)) h' :=
  mm_of_G si_pn_Q (Nat.le_of_ble_eq_true rfl) (t_Q_broken_0 _ _ _ _ _ _ hf)
/-! Q quota (II)I -/
set_option maxRecDepth 100000 in
theorem dd_Q_quota_0 : (decode prog_1_method_10_code 0 = .ok (.aload_n 0, 1)) ∧ (decode prog_1_method_10_code 1 = .ok (.getfield 19, 3)) ∧ (decode prog_1_method_10_code 4 = .ok (.iload_n 1, 1)) ∧ (decode prog_1_method_10_code 5 = .ok (.invokevirtual 109, 3)) ∧ (decode prog_1_method_10_code 8 = .ok (.ifCond .eq 13, 3)) ∧ (decode prog_1_method_10_code 11 = .ok (.iload_n 2, 1)) ∧ (decode prog_1_method_10_code 12 = .ok (.iconst 0, 1)) ∧ (decode prog_1_method_10_code 13 = .ok (.bipush 9, 2)) ∧ (decode prog_1_method_10_code 15 = .ok (.invokestatic 62, 3)) ∧ (decode prog_1_method_10_code 18 = .ok (.ifCond .ne 5, 3)) ∧ (decode prog_1_method_10_code 21 = .ok (.iconst (-1), 1)) ∧ (decode prog_1_method_10_code 22 = .ok (.ireturn, 1)) ∧ (decode prog_1_method_10_code 23 = .ok (.aload_n 0, 1)) ∧ (decode prog_1_method_10_code 24 = .ok (.getfield 19, 3)) ∧ (decode prog_1_method_10_code 27 = .ok (.getfield 112, 3)) ∧ (decode prog_1_method_10_code 30 = .ok (.iload_n 1, 1)) ∧ (decode prog_1_method_10_code 31 = .ok (.iaload, 1)) ∧ (decode prog_1_method_10_code 32 = .ok (.istore_n 3, 1)) ∧ (decode prog_1_method_10_code 33 = .ok (.aload_n 0, 1)) ∧ (decode prog_1_method_10_code 34 = .ok (.getfield 19, 3)) ∧ (decode prog_1_method_10_code 37 = .ok (.getfield 112, 3)) ∧ (decode prog_1_method_10_code 40 = .ok (.iload_n 1, 1)) ∧ (decode prog_1_method_10_code 41 = .ok (.iload_n 2, 1)) ∧ (decode prog_1_method_10_code 42 = .ok (.iastore, 1)) := by
  have h : List.drop 0 prog_1_method_10_code.data.toList = 0x2a :: _ := rfl
  refine ⟨zq_k_n 42 h rfl (zq_o_42 _), ?_⟩
  replace h := zq_nx1 (q := 1) h rfl
  refine ⟨zq_k_u2 180 (fun z => .getfield z) 19 h rfl (zq_o_180 _) (by decide +kernel), ?_⟩
  replace h := zq_nx3 (q := 4) h rfl
  refine ⟨zq_k_n 27 h rfl (zq_o_27 _), ?_⟩
  replace h := zq_nx1 (q := 5) h rfl
  refine ⟨zq_k_u2 182 (fun z => .invokevirtual z) 109 h rfl (zq_o_182 _) (by decide +kernel), ?_⟩
  replace h := zq_nx3 (q := 8) h rfl
  refine ⟨zq_k_s2 153 (fun z => .ifCond .eq z) 13 h rfl (zq_o_153 _) (by decide +kernel), ?_⟩
  replace h := zq_nx3 (q := 11) h rfl
  refine ⟨zq_k_n 28 h rfl (zq_o_28 _), ?_⟩
  replace h := zq_nx1 (q := 12) h rfl
  refine ⟨zq_k_n 3 h rfl (zq_o_3 _), ?_⟩
  replace h := zq_nx1 (q := 13) h rfl
  refine ⟨zq_k_s1 16 (fun z => .bipush z) 9 h rfl (zq_o_16 _) (by decide +kernel), ?_⟩
  replace h := zq_nx2 (q := 15) h rfl
  refine ⟨zq_k_u2 184 (fun z => .invokestatic z) 62 h rfl (zq_o_184 _) (by decide +kernel), ?_⟩
  replace h := zq_nx3 (q := 18) h rfl
  refine ⟨zq_k_s2 154 (fun z => .ifCond .ne z) 5 h rfl (zq_o_154 _) (by decide +kernel), ?_⟩
  replace h := zq_nx3 (q := 21) h rfl
  refine ⟨zq_k_n 2 h rfl (zq_o_2 _), ?_⟩
  replace h := zq_nx1 (q := 22) h rfl
  refine ⟨zq_k_n 172 h rfl (zq_o_172 _), ?_⟩
  replace h := zq_nx1 (q := 23) h rfl
  refine ⟨zq_k_n 42 h rfl (zq_o_42 _), ?_⟩
  replace h := zq_nx1 (q := 24) h rfl
  refine ⟨zq_k_u2 180 (fun z => .getfield z) 19 h rfl (zq_o_180 _) (by decide +kernel), ?_⟩
  replace h := zq_nx3 (q := 27) h rfl
  refine ⟨zq_k_u2 180 (fun z => .getfield z) 112 h rfl (zq_o_180 _) (by decide +kernel), ?_⟩
  replace h := zq_nx3 (q := 30) h rfl
  refine ⟨zq_k_n 27 h rfl (zq_o_27 _), ?_⟩
  replace h := zq_nx1 (q := 31) h rfl
  refine ⟨zq_k_n 46 h rfl (zq_o_46 _), ?_⟩
  replace h := zq_nx1 (q := 32) h rfl
  refine ⟨zq_k_n 62 h rfl (zq_o_62 _), ?_⟩
  replace h := zq_nx1 (q := 33) h rfl
  refine ⟨zq_k_n 42 h rfl (zq_o_42 _), ?_⟩
  replace h := zq_nx1 (q := 34) h rfl
  refine ⟨zq_k_u2 180 (fun z => .getfield z) 19 h rfl (zq_o_180 _) (by decide +kernel), ?_⟩
  replace h := zq_nx3 (q := 37) h rfl
  refine ⟨zq_k_u2 180 (fun z => .getfield z) 112 h rfl (zq_o_180 _) (by decide +kernel), ?_⟩
  replace h := zq_nx3 (q := 40) h rfl
  refine ⟨zq_k_n 27 h rfl (zq_o_27 _), ?_⟩
  replace h := zq_nx1 (q := 41) h rfl
  refine ⟨zq_k_n 28 h rfl (zq_o_28 _), ?_⟩
  replace h := zq_nx1 (q := 42) h rfl
  exact zq_k_n 79 h rfl (zq_o_79 _)
set_option maxRecDepth 100000 in
theorem dd_Q_quota_43 : (decode prog_1_method_10_code 43 = .ok (.iload_n 3, 1)) ∧ (decode prog_1_method_10_code 44 = .ok (.ireturn, 1)) := by
  have h : List.drop 43 prog_1_method_10_code.data.toList = 0x1d :: _ := rfl
  refine ⟨zq_k_n 29 h rfl (zq_o_29 _), ?_⟩
  replace h := zq_nx1 (q := 44) h rfl
  exact zq_k_n 172 h rfl (zq_o_172 _)
def f_Q_quota_21   (h : mH) : Option (Int32 × mH) :=
  some (((-1) : Int32), h)
set_option maxRecDepth 20000 in
theorem t_Q_quota_21 {sc : Nat × (Nat → Int32)}   (h : mH) (r : Int32) (h' : mH) (hf : f_Q_quota_21   h = some (r, h')) : G sc y_Q_quota prog_1_method_10_code 4 (some .int) 1 22 21 [] [] h (some (.int r)) h' := by
  unfold f_Q_quota_21 at hf
  refine g_iconst (pc := 21) ((-1) : Int32) dd_Q_quota_0.2.2.2.2.2.2.2.2.2.2.1 (by decide) ?_
  obtain ⟨rfl, rfl⟩ := ret2 hf
  exact g_iret (pc := 22) rfl dd_Q_quota_0.2.2.2.2.2.2.2.2.2.2.2.1
def f_Q_quota_0  (a0 : Nat) (a1 : Int32) (a2 : Int32) (h : mH) : Option (Int32 × mH) :=
  bd1 (gR h a0 0 1) fun x1 =>
  bd1 (kC h x1 4) fun _ =>
  bd2 (f_Realm_hasLaw x1 a1 h) fun x7 h5 =>
  if x7 = 0 then
    f_Q_quota_21  h5
  else
    bd2 (f_Q_isWithin a2 (0 : Int32) (9 : Int32) h5) fun x10 h8 =>
    if x10 = 0 then
      f_Q_quota_21  h8
    else
      bd1 (gR h8 a0 0 1) fun x11 =>
      bd1 (gR h8 x11 4 6) fun x13 =>
      bd1 (aI h8 0 x13 a1) fun x15 =>
      bd1 (gR h8 a0 0 1) fun x17 =>
      bd1 (gR h8 x17 4 6) fun x19 =>
      bd1 (sI h8 0 x19 a1 a2) fun h21 =>
      some (x15, h21)
set_option maxRecDepth 20000 in
theorem t_Q_quota_0 {sc : Nat × (Nat → Int32)}  (a0 : Nat) (a1 : Int32) (a2 : Int32) (h : mH) (r : Int32) (h' : mH) (hf : f_Q_quota_0  a0 a1 a2 h = some (r, h')) : G sc y_Q_quota prog_1_method_10_code 4 (some .int) 1 22 0 [(0, .ref a0), (1, .int a1), (2, .int a2)] [] h (some (.int r)) h' := by
  unfold f_Q_quota_0 at hf
  refine g_aload_n (pc := 0) 0 dd_Q_quota_0.1 rfl rfl ?_
  obtain ⟨x1, e2, hf⟩ := bd1_e hf
  refine g_get (pc := 1) (ci := 0) (kk := 1) dd_Q_quota_0.2.1 rfl in_Q (by decide) wd_297 (gR_spec e2) ?_
  refine g_iload_n (pc := 4) 1 dd_Q_quota_0.2.2.1 rfl rfl ?_
  obtain ⟨u4, e3, hf⟩ := bd1_e hf
  obtain ⟨x7, h5, e6, hf⟩ := bd2_e hf
  refine g_callV (pc := 5) (ci := 4) [.int a1] (site_of si_Realm_hasLaw (by decide) (by decide)) wd_519 wd_488 wd_489 dd_Q_quota_0.2.2.2.1 rfl e3 (Nat.le_of_ble_eq_true rfl) (fun z => absurd z si_na_Realm_hasLaw) (fun z => absurd z si_na_Realm_hasLaw) (fun z => absurd z si_na_Realm_hasLaw) (c_Realm_hasLaw e6) rfl ?_
  refine g_st [.int x7] rfl ?_
  refine g_ifeq (pc := 8) 21 dd_Q_quota_0.2.2.2.2.1 (by decide) (fun c24 => ?_) (fun c24 => ?_)
  · replace hf := (if_pos c24).symm.trans hf
    refine g_lv [] rfl ?_
    exact t_Q_quota_21  _ _ _  hf
  · replace hf := (if_neg c24).symm.trans hf
    refine g_iload_n (pc := 11) 2 dd_Q_quota_0.2.2.2.2.2.1 rfl rfl ?_
    refine g_iconst (pc := 12) (0 : Int32) dd_Q_quota_0.2.2.2.2.2.2.1 (by decide) ?_
    refine g_bipush (pc := 13) (9 : Int32) dd_Q_quota_0.2.2.2.2.2.2.2.1 (by decide) ?_
    obtain ⟨x10, h8, e9, hf⟩ := bd2_e hf
    refine g_callS (pc := 15) [.int a2, .int (0 : Int32), .int (9 : Int32)] (site_of si_Q_isWithin (by decide) (by decide)) wd_331 wd_332 dd_Q_quota_0.2.2.2.2.2.2.2.2.1 (Nat.le_of_ble_eq_true rfl) (fun z => absurd z si_na_Q_isWithin) (fun z => absurd z si_na_Q_isWithin) (fun z => absurd z si_na_Q_isWithin) (c_Q_isWithin e9) rfl ?_
    refine g_st [.int x10] rfl ?_
    refine g_ifne (pc := 18) 23 dd_Q_quota_0.2.2.2.2.2.2.2.2.2.1 (by decide) (fun c23 => ?_) (fun c23 => ?_)
    · replace hf := (if_neg c23).symm.trans hf
      refine g_aload_n (pc := 23) 0 dd_Q_quota_0.2.2.2.2.2.2.2.2.2.2.2.2.1 rfl rfl ?_
      obtain ⟨x11, e12, hf⟩ := bd1_e hf
      refine g_get (pc := 24) (ci := 0) (kk := 1) dd_Q_quota_0.2.2.2.2.2.2.2.2.2.2.2.2.2.1 rfl in_Q (by decide) wd_297 (gR_spec e12) ?_
      obtain ⟨x13, e14, hf⟩ := bd1_e hf
      refine g_get (pc := 27) (ci := 4) (kk := 6) dd_Q_quota_0.2.2.2.2.2.2.2.2.2.2.2.2.2.2.1 rfl in_Realm (by decide) wd_115 (gR_spec e14) ?_
      refine g_iload_n (pc := 30) 1 dd_Q_quota_0.2.2.2.2.2.2.2.2.2.2.2.2.2.2.2.1 rfl rfl ?_
      obtain ⟨x15, e16, hf⟩ := bd1_e hf
      refine g_iald (pc := 31) dd_Q_quota_0.2.2.2.2.2.2.2.2.2.2.2.2.2.2.2.2.1 e16 ?_
      refine g_istore_n (pc := 32) [(3, .int x15), (0, .ref a0), (1, .int a1), (2, .int a2)] dd_Q_quota_0.2.2.2.2.2.2.2.2.2.2.2.2.2.2.2.2.2.1 rfl (Nat.le_of_ble_eq_true rfl) rfl ?_
      refine g_aload_n (pc := 33) 1 dd_Q_quota_0.2.2.2.2.2.2.2.2.2.2.2.2.2.2.2.2.2.2.1 rfl rfl ?_
      obtain ⟨x17, e18, hf⟩ := bd1_e hf
      refine g_get (pc := 34) (ci := 0) (kk := 1) dd_Q_quota_0.2.2.2.2.2.2.2.2.2.2.2.2.2.2.2.2.2.2.2.1 rfl in_Q (by decide) wd_297 (gR_spec e18) ?_
      obtain ⟨x19, e20, hf⟩ := bd1_e hf
      refine g_get (pc := 37) (ci := 4) (kk := 6) dd_Q_quota_0.2.2.2.2.2.2.2.2.2.2.2.2.2.2.2.2.2.2.2.2.1 rfl in_Realm (by decide) wd_115 (gR_spec e20) ?_
      refine g_iload_n (pc := 40) 2 dd_Q_quota_0.2.2.2.2.2.2.2.2.2.2.2.2.2.2.2.2.2.2.2.2.2.1 rfl rfl ?_
      refine g_iload_n (pc := 41) 3 dd_Q_quota_0.2.2.2.2.2.2.2.2.2.2.2.2.2.2.2.2.2.2.2.2.2.2.1 rfl rfl ?_
      obtain ⟨h21, e22, hf⟩ := bd1_e hf
      refine g_iast (pc := 42) dd_Q_quota_0.2.2.2.2.2.2.2.2.2.2.2.2.2.2.2.2.2.2.2.2.2.2.2 e22 ?_
      refine g_iload_n (pc := 43) 0 dd_Q_quota_43.1 rfl rfl ?_
      obtain ⟨rfl, rfl⟩ := ret2 hf
      exact g_iret (pc := 44) rfl dd_Q_quota_43.2
    · replace hf := (if_pos c23).symm.trans hf
      refine g_lv [] rfl ?_
      exact t_Q_quota_21  _ _ _  hf
def f_Q_quota (a0 : Nat) (a1 : Int32) (a2 : Int32) (h : mH) : Option (Int32 × mH) := f_Q_quota_0 a0 a1 a2 h
theorem c_Q_quota {sc : Nat × (Nat → Int32)} {a0 : Nat} {a1 : Int32} {a2 : Int32} {h : mH} {r : Int32} {h' : mH} (hf : f_Q_quota a0 a1 a2 h = some (r, h')) : MM sc y_Q_quota prog_1_method_10_code 4 (some .int) 1 22 [.ref a0, .int a1, .int a2] h (some (.int r)) h' :=
  mm_of_G si_pn_Q (Nat.le_of_ble_eq_true rfl) (t_Q_quota_0 _ _ _ _ _ _ hf)
/-! Q carry (II)I -/
set_option maxRecDepth 100000 in
theorem dd_Q_carry_0 : (decode prog_1_method_11_code 0 = .ok (.aload_n 0, 1)) ∧ (decode prog_1_method_11_code 1 = .ok (.getfield 19, 3)) ∧ (decode prog_1_method_11_code 4 = .ok (.iload_n 1, 1)) ∧ (decode prog_1_method_11_code 5 = .ok (.invokevirtual 109, 3)) ∧ (decode prog_1_method_11_code 8 = .ok (.ifCond .eq 25, 3)) ∧ (decode prog_1_method_11_code 11 = .ok (.iload_n 2, 1)) ∧ (decode prog_1_method_11_code 12 = .ok (.iload_n 1, 1)) ∧ (decode prog_1_method_11_code 13 = .ok (.if_icmp .eq 20, 3)) ∧ (decode prog_1_method_11_code 16 = .ok (.iload_n 2, 1)) ∧ (decode prog_1_method_11_code 17 = .ok (.bipush (-4), 2)) ∧ (decode prog_1_method_11_code 19 = .ok (.if_icmp .eq 16, 3)) ∧ (decode prog_1_method_11_code 22 = .ok (.aload_n 0, 1)) ∧ (decode prog_1_method_11_code 23 = .ok (.getfield 19, 3)) ∧ (decode prog_1_method_11_code 26 = .ok (.iload_n 2, 1)) ∧ (decode prog_1_method_11_code 27 = .ok (.invokevirtual 109, 3)) ∧ (decode prog_1_method_11_code 30 = .ok (.ifCond .ne 5, 3)) ∧ (decode prog_1_method_11_code 33 = .ok (.iconst (-1), 1)) ∧ (decode prog_1_method_11_code 34 = .ok (.ireturn, 1)) ∧ (decode prog_1_method_11_code 35 = .ok (.aload_n 0, 1)) ∧ (decode prog_1_method_11_code 36 = .ok (.getfield 19, 3)) ∧ (decode prog_1_method_11_code 39 = .ok (.getfield 125, 3)) ∧ (decode prog_1_method_11_code 42 = .ok (.iload_n 1, 1)) ∧ (decode prog_1_method_11_code 43 = .ok (.iaload, 1)) ∧ (decode prog_1_method_11_code 44 = .ok (.istore_n 3, 1)) := by
  have h : List.drop 0 prog_1_method_11_code.data.toList = 0x2a :: _ := rfl
  refine ⟨zq_k_n 42 h rfl (zq_o_42 _), ?_⟩
  replace h := zq_nx1 (q := 1) h rfl
  refine ⟨zq_k_u2 180 (fun z => .getfield z) 19 h rfl (zq_o_180 _) (by decide +kernel), ?_⟩
  replace h := zq_nx3 (q := 4) h rfl
  refine ⟨zq_k_n 27 h rfl (zq_o_27 _), ?_⟩
  replace h := zq_nx1 (q := 5) h rfl
  refine ⟨zq_k_u2 182 (fun z => .invokevirtual z) 109 h rfl (zq_o_182 _) (by decide +kernel), ?_⟩
  replace h := zq_nx3 (q := 8) h rfl
  refine ⟨zq_k_s2 153 (fun z => .ifCond .eq z) 25 h rfl (zq_o_153 _) (by decide +kernel), ?_⟩
  replace h := zq_nx3 (q := 11) h rfl
  refine ⟨zq_k_n 28 h rfl (zq_o_28 _), ?_⟩
  replace h := zq_nx1 (q := 12) h rfl
  refine ⟨zq_k_n 27 h rfl (zq_o_27 _), ?_⟩
  replace h := zq_nx1 (q := 13) h rfl
  refine ⟨zq_k_s2 159 (fun z => .if_icmp .eq z) 20 h rfl (zq_o_159 _) (by decide +kernel), ?_⟩
  replace h := zq_nx3 (q := 16) h rfl
  refine ⟨zq_k_n 28 h rfl (zq_o_28 _), ?_⟩
  replace h := zq_nx1 (q := 17) h rfl
  refine ⟨zq_k_s1 16 (fun z => .bipush z) (-4) h rfl (zq_o_16 _) (by decide +kernel), ?_⟩
  replace h := zq_nx2 (q := 19) h rfl
  refine ⟨zq_k_s2 159 (fun z => .if_icmp .eq z) 16 h rfl (zq_o_159 _) (by decide +kernel), ?_⟩
  replace h := zq_nx3 (q := 22) h rfl
  refine ⟨zq_k_n 42 h rfl (zq_o_42 _), ?_⟩
  replace h := zq_nx1 (q := 23) h rfl
  refine ⟨zq_k_u2 180 (fun z => .getfield z) 19 h rfl (zq_o_180 _) (by decide +kernel), ?_⟩
  replace h := zq_nx3 (q := 26) h rfl
  refine ⟨zq_k_n 28 h rfl (zq_o_28 _), ?_⟩
  replace h := zq_nx1 (q := 27) h rfl
  refine ⟨zq_k_u2 182 (fun z => .invokevirtual z) 109 h rfl (zq_o_182 _) (by decide +kernel), ?_⟩
  replace h := zq_nx3 (q := 30) h rfl
  refine ⟨zq_k_s2 154 (fun z => .ifCond .ne z) 5 h rfl (zq_o_154 _) (by decide +kernel), ?_⟩
  replace h := zq_nx3 (q := 33) h rfl
  refine ⟨zq_k_n 2 h rfl (zq_o_2 _), ?_⟩
  replace h := zq_nx1 (q := 34) h rfl
  refine ⟨zq_k_n 172 h rfl (zq_o_172 _), ?_⟩
  replace h := zq_nx1 (q := 35) h rfl
  refine ⟨zq_k_n 42 h rfl (zq_o_42 _), ?_⟩
  replace h := zq_nx1 (q := 36) h rfl
  refine ⟨zq_k_u2 180 (fun z => .getfield z) 19 h rfl (zq_o_180 _) (by decide +kernel), ?_⟩
  replace h := zq_nx3 (q := 39) h rfl
  refine ⟨zq_k_u2 180 (fun z => .getfield z) 125 h rfl (zq_o_180 _) (by decide +kernel), ?_⟩
  replace h := zq_nx3 (q := 42) h rfl
  refine ⟨zq_k_n 27 h rfl (zq_o_27 _), ?_⟩
  replace h := zq_nx1 (q := 43) h rfl
  refine ⟨zq_k_n 46 h rfl (zq_o_46 _), ?_⟩
  replace h := zq_nx1 (q := 44) h rfl
  exact zq_k_n 62 h rfl (zq_o_62 _)
set_option maxRecDepth 100000 in
theorem dd_Q_carry_45 : (decode prog_1_method_11_code 45 = .ok (.aload_n 0, 1)) ∧ (decode prog_1_method_11_code 46 = .ok (.getfield 19, 3)) ∧ (decode prog_1_method_11_code 49 = .ok (.getfield 125, 3)) ∧ (decode prog_1_method_11_code 52 = .ok (.iload_n 1, 1)) ∧ (decode prog_1_method_11_code 53 = .ok (.iload_n 2, 1)) ∧ (decode prog_1_method_11_code 54 = .ok (.iastore, 1)) ∧ (decode prog_1_method_11_code 55 = .ok (.iload_n 3, 1)) ∧ (decode prog_1_method_11_code 56 = .ok (.ireturn, 1)) := by
  have h : List.drop 45 prog_1_method_11_code.data.toList = 0x2a :: _ := rfl
  refine ⟨zq_k_n 42 h rfl (zq_o_42 _), ?_⟩
  replace h := zq_nx1 (q := 46) h rfl
  refine ⟨zq_k_u2 180 (fun z => .getfield z) 19 h rfl (zq_o_180 _) (by decide +kernel), ?_⟩
  replace h := zq_nx3 (q := 49) h rfl
  refine ⟨zq_k_u2 180 (fun z => .getfield z) 125 h rfl (zq_o_180 _) (by decide +kernel), ?_⟩
  replace h := zq_nx3 (q := 52) h rfl
  refine ⟨zq_k_n 27 h rfl (zq_o_27 _), ?_⟩
  replace h := zq_nx1 (q := 53) h rfl
  refine ⟨zq_k_n 28 h rfl (zq_o_28 _), ?_⟩
  replace h := zq_nx1 (q := 54) h rfl
  refine ⟨zq_k_n 79 h rfl (zq_o_79 _), ?_⟩
  replace h := zq_nx1 (q := 55) h rfl
  refine ⟨zq_k_n 29 h rfl (zq_o_29 _), ?_⟩
  replace h := zq_nx1 (q := 56) h rfl
  exact zq_k_n 172 h rfl (zq_o_172 _)
def f_Q_carry_35  (b0 : Nat) (b1 : Int32) (b2 : Int32) (h : mH) : Option (Int32 × mH) :=
  bd1 (gR h b0 0 1) fun x19 =>
  bd1 (gR h x19 4 10) fun x21 =>
  bd1 (aI h 0 x21 b1) fun x23 =>
  bd1 (gR h b0 0 1) fun x25 =>
  bd1 (gR h x25 4 10) fun x27 =>
  bd1 (sI h 0 x27 b1 b2) fun h29 =>
  some (x23, h29)
set_option maxRecDepth 20000 in
theorem t_Q_carry_35 {sc : Nat × (Nat → Int32)}  (b0 : Nat) (b1 : Int32) (b2 : Int32) (h : mH) (r : Int32) (h' : mH) (hf : f_Q_carry_35  b0 b1 b2 h = some (r, h')) : G sc y_Q_carry prog_1_method_11_code 4 (some .int) 1 21 35 [(0, .ref b0), (1, .int b1), (2, .int b2)] [] h (some (.int r)) h' := by
  unfold f_Q_carry_35 at hf
  refine g_aload_n (pc := 35) 0 dd_Q_carry_0.2.2.2.2.2.2.2.2.2.2.2.2.2.2.2.2.2.2.1 rfl rfl ?_
  obtain ⟨x19, e20, hf⟩ := bd1_e hf
  refine g_get (pc := 36) (ci := 0) (kk := 1) dd_Q_carry_0.2.2.2.2.2.2.2.2.2.2.2.2.2.2.2.2.2.2.2.1 rfl in_Q (by decide) wd_297 (gR_spec e20) ?_
  obtain ⟨x21, e22, hf⟩ := bd1_e hf
  refine g_get (pc := 39) (ci := 4) (kk := 10) dd_Q_carry_0.2.2.2.2.2.2.2.2.2.2.2.2.2.2.2.2.2.2.2.2.1 rfl in_Realm (by decide) wd_129 (gR_spec e22) ?_
  refine g_iload_n (pc := 42) 1 dd_Q_carry_0.2.2.2.2.2.2.2.2.2.2.2.2.2.2.2.2.2.2.2.2.2.1 rfl rfl ?_
  obtain ⟨x23, e24, hf⟩ := bd1_e hf
  refine g_iald (pc := 43) dd_Q_carry_0.2.2.2.2.2.2.2.2.2.2.2.2.2.2.2.2.2.2.2.2.2.2.1 e24 ?_
  refine g_istore_n (pc := 44) [(3, .int x23), (0, .ref b0), (1, .int b1), (2, .int b2)] dd_Q_carry_0.2.2.2.2.2.2.2.2.2.2.2.2.2.2.2.2.2.2.2.2.2.2.2 rfl (Nat.le_of_ble_eq_true rfl) rfl ?_
  refine g_aload_n (pc := 45) 1 dd_Q_carry_45.1 rfl rfl ?_
  obtain ⟨x25, e26, hf⟩ := bd1_e hf
  refine g_get (pc := 46) (ci := 0) (kk := 1) dd_Q_carry_45.2.1 rfl in_Q (by decide) wd_297 (gR_spec e26) ?_
  obtain ⟨x27, e28, hf⟩ := bd1_e hf
  refine g_get (pc := 49) (ci := 4) (kk := 10) dd_Q_carry_45.2.2.1 rfl in_Realm (by decide) wd_129 (gR_spec e28) ?_
  refine g_iload_n (pc := 52) 2 dd_Q_carry_45.2.2.2.1 rfl rfl ?_
  refine g_iload_n (pc := 53) 3 dd_Q_carry_45.2.2.2.2.1 rfl rfl ?_
  obtain ⟨h29, e30, hf⟩ := bd1_e hf
  refine g_iast (pc := 54) dd_Q_carry_45.2.2.2.2.2.1 e30 ?_
  refine g_iload_n (pc := 55) 0 dd_Q_carry_45.2.2.2.2.2.2.1 rfl rfl ?_
  obtain ⟨rfl, rfl⟩ := ret2 hf
  exact g_iret (pc := 56) rfl dd_Q_carry_45.2.2.2.2.2.2.2
def f_Q_carry_33   (h : mH) : Option (Int32 × mH) :=
  some (((-1) : Int32), h)
set_option maxRecDepth 20000 in
theorem t_Q_carry_33 {sc : Nat × (Nat → Int32)}   (h : mH) (r : Int32) (h' : mH) (hf : f_Q_carry_33   h = some (r, h')) : G sc y_Q_carry prog_1_method_11_code 4 (some .int) 1 21 33 [] [] h (some (.int r)) h' := by
  unfold f_Q_carry_33 at hf
  refine g_iconst (pc := 33) ((-1) : Int32) dd_Q_carry_0.2.2.2.2.2.2.2.2.2.2.2.2.2.2.2.2.1 (by decide) ?_
  obtain ⟨rfl, rfl⟩ := ret2 hf
  exact g_iret (pc := 34) rfl dd_Q_carry_0.2.2.2.2.2.2.2.2.2.2.2.2.2.2.2.2.2.1
def f_Q_carry_0  (a0 : Nat) (a1 : Int32) (a2 : Int32) (h : mH) : Option (Int32 × mH) :=
  bd1 (gR h a0 0 1) fun x1 =>
  bd1 (kC h x1 4) fun _ =>
  bd2 (f_Realm_hasLaw x1 a1 h) fun x7 h5 =>
  if x7 = 0 then
    f_Q_carry_33  h5
  else
    if a2 = a1 then
      f_Q_carry_33  h5
    else
      if a2 = ((-4) : Int32) then
        f_Q_carry_35  a0 a1 a2 h5
      else
        bd1 (gR h5 a0 0 1) fun x8 =>
        bd1 (kC h5 x8 4) fun _ =>
        bd2 (f_Realm_hasLaw x8 a2 h5) fun x14 h12 =>
        if x14 = 0 then
          f_Q_carry_33  h12
        else
          f_Q_carry_35  a0 a1 a2 h12
set_option maxRecDepth 20000 in
theorem t_Q_carry_0 {sc : Nat × (Nat → Int32)}  (a0 : Nat) (a1 : Int32) (a2 : Int32) (h : mH) (r : Int32) (h' : mH) (hf : f_Q_carry_0  a0 a1 a2 h = some (r, h')) : G sc y_Q_carry prog_1_method_11_code 4 (some .int) 1 21 0 [(0, .ref a0), (1, .int a1), (2, .int a2)] [] h (some (.int r)) h' := by
  unfold f_Q_carry_0 at hf
  refine g_aload_n (pc := 0) 0 dd_Q_carry_0.1 rfl rfl ?_
  obtain ⟨x1, e2, hf⟩ := bd1_e hf
  refine g_get (pc := 1) (ci := 0) (kk := 1) dd_Q_carry_0.2.1 rfl in_Q (by decide) wd_297 (gR_spec e2) ?_
  refine g_iload_n (pc := 4) 1 dd_Q_carry_0.2.2.1 rfl rfl ?_
  obtain ⟨u4, e3, hf⟩ := bd1_e hf
  obtain ⟨x7, h5, e6, hf⟩ := bd2_e hf
  refine g_callV (pc := 5) (ci := 4) [.int a1] (site_of si_Realm_hasLaw (by decide) (by decide)) wd_519 wd_488 wd_489 dd_Q_carry_0.2.2.2.1 rfl e3 (Nat.le_of_ble_eq_true rfl) (fun z => absurd z si_na_Realm_hasLaw) (fun z => absurd z si_na_Realm_hasLaw) (fun z => absurd z si_na_Realm_hasLaw) (c_Realm_hasLaw e6) rfl ?_
  refine g_st [.int x7] rfl ?_
  refine g_ifeq (pc := 8) 33 dd_Q_carry_0.2.2.2.2.1 (by decide) (fun c18 => ?_) (fun c18 => ?_)
  · replace hf := (if_pos c18).symm.trans hf
    refine g_lv [] rfl ?_
    exact t_Q_carry_33  _ _ _  hf
  · replace hf := (if_neg c18).symm.trans hf
    refine g_iload_n (pc := 11) 2 dd_Q_carry_0.2.2.2.2.2.1 rfl rfl ?_
    refine g_iload_n (pc := 12) 1 dd_Q_carry_0.2.2.2.2.2.2.1 rfl rfl ?_
    refine g_icmpeq (pc := 13) 33 dd_Q_carry_0.2.2.2.2.2.2.2.1 (by decide) (fun c17 => ?_) (fun c17 => ?_)
    · replace hf := (if_pos c17).symm.trans hf
      refine g_lv [] rfl ?_
      exact t_Q_carry_33  _ _ _  hf
    · replace hf := (if_neg c17).symm.trans hf
      refine g_iload_n (pc := 16) 2 dd_Q_carry_0.2.2.2.2.2.2.2.2.1 rfl rfl ?_
      refine g_bipush (pc := 17) ((-4) : Int32) dd_Q_carry_0.2.2.2.2.2.2.2.2.2.1 (by decide) ?_
      refine g_icmpeq (pc := 19) 35 dd_Q_carry_0.2.2.2.2.2.2.2.2.2.2.1 (by decide) (fun c16 => ?_) (fun c16 => ?_)
      · replace hf := (if_pos c16).symm.trans hf
        refine g_lv [0, 1, 2] rfl ?_
        exact t_Q_carry_35  _ _ _ _ _ _  hf
      · replace hf := (if_neg c16).symm.trans hf
        refine g_aload_n (pc := 22) 0 dd_Q_carry_0.2.2.2.2.2.2.2.2.2.2.2.1 rfl rfl ?_
        obtain ⟨x8, e9, hf⟩ := bd1_e hf
        refine g_get (pc := 23) (ci := 0) (kk := 1) dd_Q_carry_0.2.2.2.2.2.2.2.2.2.2.2.2.1 rfl in_Q (by decide) wd_297 (gR_spec e9) ?_
        refine g_iload_n (pc := 26) 2 dd_Q_carry_0.2.2.2.2.2.2.2.2.2.2.2.2.2.1 rfl rfl ?_
        obtain ⟨u11, e10, hf⟩ := bd1_e hf
        obtain ⟨x14, h12, e13, hf⟩ := bd2_e hf
        refine g_callV (pc := 27) (ci := 4) [.int a2] (site_of si_Realm_hasLaw (by decide) (by decide)) wd_519 wd_488 wd_489 dd_Q_carry_0.2.2.2.2.2.2.2.2.2.2.2.2.2.2.1 rfl e10 (Nat.le_of_ble_eq_true rfl) (fun z => absurd z si_na_Realm_hasLaw) (fun z => absurd z si_na_Realm_hasLaw) (fun z => absurd z si_na_Realm_hasLaw) (c_Realm_hasLaw e13) rfl ?_
        refine g_st [.int x14] rfl ?_
        refine g_ifne (pc := 30) 35 dd_Q_carry_0.2.2.2.2.2.2.2.2.2.2.2.2.2.2.2.1 (by decide) (fun c15 => ?_) (fun c15 => ?_)
        · replace hf := (if_neg c15).symm.trans hf
          refine g_lv [0, 1, 2] rfl ?_
          exact t_Q_carry_35  _ _ _ _ _ _  hf
        · replace hf := (if_pos c15).symm.trans hf
          refine g_lv [] rfl ?_
          exact t_Q_carry_33  _ _ _  hf
def f_Q_carry (a0 : Nat) (a1 : Int32) (a2 : Int32) (h : mH) : Option (Int32 × mH) := f_Q_carry_0 a0 a1 a2 h
theorem c_Q_carry {sc : Nat × (Nat → Int32)} {a0 : Nat} {a1 : Int32} {a2 : Int32} {h : mH} {r : Int32} {h' : mH} (hf : f_Q_carry a0 a1 a2 h = some (r, h')) : MM sc y_Q_carry prog_1_method_11_code 4 (some .int) 1 21 [.ref a0, .int a1, .int a2] h (some (.int r)) h' :=
  mm_of_G si_pn_Q (Nat.le_of_ble_eq_true rfl) (t_Q_carry_0 _ _ _ _ _ _ hf)
/-! Q bitOf (II)I -/
set_option maxRecDepth 100000 in
theorem dd_Q_bitOf_0 : (decode prog_1_method_43_code 0 = .ok (.iload_n 0, 1)) ∧ (decode prog_1_method_43_code 1 = .ok (.iload_n 1, 1)) ∧ (decode prog_1_method_43_code 2 = .ok (.ishr, 1)) ∧ (decode prog_1_method_43_code 3 = .ok (.iconst 1, 1)) ∧ (decode prog_1_method_43_code 4 = .ok (.iand, 1)) ∧ (decode prog_1_method_43_code 5 = .ok (.ireturn, 1)) := by
  have h : List.drop 0 prog_1_method_43_code.data.toList = 0x1a :: _ := rfl
  refine ⟨zq_k_n 26 h rfl (zq_o_26 _), ?_⟩
  replace h := zq_nx1 (q := 1) h rfl
  refine ⟨zq_k_n 27 h rfl (zq_o_27 _), ?_⟩
  replace h := zq_nx1 (q := 2) h rfl
  refine ⟨zq_k_n 122 h rfl (zq_o_122 _), ?_⟩
  replace h := zq_nx1 (q := 3) h rfl
  refine ⟨zq_k_n 4 h rfl (zq_o_4 _), ?_⟩
  replace h := zq_nx1 (q := 4) h rfl
  refine ⟨zq_k_n 126 h rfl (zq_o_126 _), ?_⟩
  replace h := zq_nx1 (q := 5) h rfl
  exact zq_k_n 172 h rfl (zq_o_172 _)
def f_Q_bitOf_0  (a0 : Int32) (a1 : Int32) (h : mH) : Option (Int32 × mH) :=
  some ((a0 >>> (a1 &&& 31)) &&& (1 : Int32), h)
set_option maxRecDepth 20000 in
theorem t_Q_bitOf_0 {sc : Nat × (Nat → Int32)}  (a0 : Int32) (a1 : Int32) (h : mH) (r : Int32) (h' : mH) (hf : f_Q_bitOf_0  a0 a1 h = some (r, h')) : G sc y_Q_bitOf prog_1_method_43_code 2 (some .int) 0 0 0 [(0, .int a0), (1, .int a1)] [] h (some (.int r)) h' := by
  unfold f_Q_bitOf_0 at hf
  refine g_iload_n (pc := 0) 0 dd_Q_bitOf_0.1 rfl rfl ?_
  refine g_iload_n (pc := 1) 1 dd_Q_bitOf_0.2.1 rfl rfl ?_
  refine g_ishr (pc := 2) dd_Q_bitOf_0.2.2.1 ?_
  refine g_iconst (pc := 3) (1 : Int32) dd_Q_bitOf_0.2.2.2.1 (by decide) ?_
  refine g_iand (pc := 4) dd_Q_bitOf_0.2.2.2.2.1 ?_
  obtain ⟨rfl, rfl⟩ := ret2 hf
  exact g_iret (pc := 5) rfl dd_Q_bitOf_0.2.2.2.2.2
def f_Q_bitOf (a0 : Int32) (a1 : Int32) (h : mH) : Option (Int32 × mH) := f_Q_bitOf_0 a0 a1 h
theorem c_Q_bitOf {sc : Nat × (Nat → Int32)} {a0 : Int32} {a1 : Int32} {h : mH} {r : Int32} {h' : mH} (hf : f_Q_bitOf a0 a1 h = some (r, h')) : MM sc y_Q_bitOf prog_1_method_43_code 2 (some .int) 0 0 [.int a0, .int a1] h (some (.int r)) h' :=
  mm_of_G si_pn_Q (Nat.le_of_ble_eq_true rfl) (t_Q_bitOf_0 _ _ _ _ _ hf)
/-! Q withBit (IIZ)I -/
set_option maxRecDepth 100000 in
theorem dd_Q_withBit_0 : (decode prog_1_method_44_code 0 = .ok (.iload_n 2, 1)) ∧ (decode prog_1_method_44_code 1 = .ok (.ifCond .eq 11, 3)) ∧ (decode prog_1_method_44_code 4 = .ok (.iload_n 0, 1)) ∧ (decode prog_1_method_44_code 5 = .ok (.iconst 1, 1)) ∧ (decode prog_1_method_44_code 6 = .ok (.iload_n 1, 1)) ∧ (decode prog_1_method_44_code 7 = .ok (.ishl, 1)) ∧ (decode prog_1_method_44_code 8 = .ok (.ior, 1)) ∧ (decode prog_1_method_44_code 9 = .ok (.goto 10, 3)) ∧ (decode prog_1_method_44_code 12 = .ok (.iload_n 0, 1)) ∧ (decode prog_1_method_44_code 13 = .ok (.iconst 1, 1)) ∧ (decode prog_1_method_44_code 14 = .ok (.iload_n 1, 1)) ∧ (decode prog_1_method_44_code 15 = .ok (.ishl, 1)) ∧ (decode prog_1_method_44_code 16 = .ok (.iconst (-1), 1)) ∧ (decode prog_1_method_44_code 17 = .ok (.ixor, 1)) ∧ (decode prog_1_method_44_code 18 = .ok (.iand, 1)) ∧ (decode prog_1_method_44_code 19 = .ok (.ireturn, 1)) := by
  have h : List.drop 0 prog_1_method_44_code.data.toList = 0x1c :: _ := rfl
  refine ⟨zq_k_n 28 h rfl (zq_o_28 _), ?_⟩
  replace h := zq_nx1 (q := 1) h rfl
  refine ⟨zq_k_s2 153 (fun z => .ifCond .eq z) 11 h rfl (zq_o_153 _) (by decide +kernel), ?_⟩
  replace h := zq_nx3 (q := 4) h rfl
  refine ⟨zq_k_n 26 h rfl (zq_o_26 _), ?_⟩
  replace h := zq_nx1 (q := 5) h rfl
  refine ⟨zq_k_n 4 h rfl (zq_o_4 _), ?_⟩
  replace h := zq_nx1 (q := 6) h rfl
  refine ⟨zq_k_n 27 h rfl (zq_o_27 _), ?_⟩
  replace h := zq_nx1 (q := 7) h rfl
  refine ⟨zq_k_n 120 h rfl (zq_o_120 _), ?_⟩
  replace h := zq_nx1 (q := 8) h rfl
  refine ⟨zq_k_n 128 h rfl (zq_o_128 _), ?_⟩
  replace h := zq_nx1 (q := 9) h rfl
  refine ⟨zq_k_s2 167 (fun z => .goto z) 10 h rfl (zq_o_167 _) (by decide +kernel), ?_⟩
  replace h := zq_nx3 (q := 12) h rfl
  refine ⟨zq_k_n 26 h rfl (zq_o_26 _), ?_⟩
  replace h := zq_nx1 (q := 13) h rfl
  refine ⟨zq_k_n 4 h rfl (zq_o_4 _), ?_⟩
  replace h := zq_nx1 (q := 14) h rfl
  refine ⟨zq_k_n 27 h rfl (zq_o_27 _), ?_⟩
  replace h := zq_nx1 (q := 15) h rfl
  refine ⟨zq_k_n 120 h rfl (zq_o_120 _), ?_⟩
  replace h := zq_nx1 (q := 16) h rfl
  refine ⟨zq_k_n 2 h rfl (zq_o_2 _), ?_⟩
  replace h := zq_nx1 (q := 17) h rfl
  refine ⟨zq_k_n 130 h rfl (zq_o_130 _), ?_⟩
  replace h := zq_nx1 (q := 18) h rfl
  refine ⟨zq_k_n 126 h rfl (zq_o_126 _), ?_⟩
  replace h := zq_nx1 (q := 19) h rfl
  exact zq_k_n 172 h rfl (zq_o_172 _)
def f_Q_withBit_0  (a0 : Int32) (a1 : Int32) (a2 : Int32) (h : mH) : Option (Int32 × mH) :=
  if a2 = 0 then
    some (a0 &&& (((1 : Int32) <<< (a1 &&& 31)) ^^^ ((-1) : Int32)), h)
  else
    some (a0 ||| ((1 : Int32) <<< (a1 &&& 31)), h)
set_option maxRecDepth 20000 in
theorem t_Q_withBit_0 {sc : Nat × (Nat → Int32)}  (a0 : Int32) (a1 : Int32) (a2 : Int32) (h : mH) (r : Int32) (h' : mH) (hf : f_Q_withBit_0  a0 a1 a2 h = some (r, h')) : G sc y_Q_withBit prog_1_method_44_code 3 (some .int) 0 0 0 [(0, .int a0), (1, .int a1), (2, .int a2)] [] h (some (.int r)) h' := by
  unfold f_Q_withBit_0 at hf
  refine g_iload_n (pc := 0) 2 dd_Q_withBit_0.1 rfl rfl ?_
  refine g_ifeq (pc := 1) 12 dd_Q_withBit_0.2.1 (by decide) (fun c1 => ?_) (fun c1 => ?_)
  · replace hf := (if_pos c1).symm.trans hf
    refine g_iload_n (pc := 12) 0 dd_Q_withBit_0.2.2.2.2.2.2.2.2.1 rfl rfl ?_
    refine g_iconst (pc := 13) (1 : Int32) dd_Q_withBit_0.2.2.2.2.2.2.2.2.2.1 (by decide) ?_
    refine g_iload_n (pc := 14) 1 dd_Q_withBit_0.2.2.2.2.2.2.2.2.2.2.1 rfl rfl ?_
    refine g_ishl (pc := 15) dd_Q_withBit_0.2.2.2.2.2.2.2.2.2.2.2.1 ?_
    refine g_iconst (pc := 16) ((-1) : Int32) dd_Q_withBit_0.2.2.2.2.2.2.2.2.2.2.2.2.1 (by decide) ?_
    refine g_ixor (pc := 17) dd_Q_withBit_0.2.2.2.2.2.2.2.2.2.2.2.2.2.1 ?_
    refine g_iand (pc := 18) dd_Q_withBit_0.2.2.2.2.2.2.2.2.2.2.2.2.2.2.1 ?_
    obtain ⟨rfl, rfl⟩ := ret2 hf
    exact g_iret (pc := 19) rfl dd_Q_withBit_0.2.2.2.2.2.2.2.2.2.2.2.2.2.2.2
  · replace hf := (if_neg c1).symm.trans hf
    refine g_iload_n (pc := 4) 0 dd_Q_withBit_0.2.2.1 rfl rfl ?_
    refine g_iconst (pc := 5) (1 : Int32) dd_Q_withBit_0.2.2.2.1 (by decide) ?_
    refine g_iload_n (pc := 6) 1 dd_Q_withBit_0.2.2.2.2.1 rfl rfl ?_
    refine g_ishl (pc := 7) dd_Q_withBit_0.2.2.2.2.2.1 ?_
    refine g_ior (pc := 8) dd_Q_withBit_0.2.2.2.2.2.2.1 ?_
    refine g_goto (pc := 9) 19 dd_Q_withBit_0.2.2.2.2.2.2.2.1 (by decide) ?_
    obtain ⟨rfl, rfl⟩ := ret2 hf
    exact g_iret (pc := 19) rfl dd_Q_withBit_0.2.2.2.2.2.2.2.2.2.2.2.2.2.2.2
def f_Q_withBit (a0 : Int32) (a1 : Int32) (a2 : Int32) (h : mH) : Option (Int32 × mH) := f_Q_withBit_0 a0 a1 a2 h
theorem c_Q_withBit {sc : Nat × (Nat → Int32)} {a0 : Int32} {a1 : Int32} {a2 : Int32} {h : mH} {r : Int32} {h' : mH} (hf : f_Q_withBit a0 a1 a2 h = some (r, h')) : MM sc y_Q_withBit prog_1_method_44_code 3 (some .int) 0 0 [.int a0, .int a1, .int a2] h (some (.int r)) h' :=
  mm_of_G si_pn_Q (Nat.le_of_ble_eq_true rfl) (t_Q_withBit_0 _ _ _ _ _ _ hf)
/-! Q watch (IZ)I -/
set_option maxRecDepth 100000 in
theorem dd_Q_watch_0 : (decode prog_1_method_12_code 0 = .ok (.aload_n 0, 1)) ∧ (decode prog_1_method_12_code 1 = .ok (.getfield 19, 3)) ∧ (decode prog_1_method_12_code 4 = .ok (.iload_n 1, 1)) ∧ (decode prog_1_method_12_code 5 = .ok (.invokevirtual 109, 3)) ∧ (decode prog_1_method_12_code 8 = .ok (.ifCond .ne 5, 3)) ∧ (decode prog_1_method_12_code 11 = .ok (.iconst (-1), 1)) ∧ (decode prog_1_method_12_code 12 = .ok (.ireturn, 1)) ∧ (decode prog_1_method_12_code 13 = .ok (.aload_n 0, 1)) ∧ (decode prog_1_method_12_code 14 = .ok (.getfield 19, 3)) ∧ (decode prog_1_method_12_code 17 = .ok (.getfield 106, 3)) ∧ (decode prog_1_method_12_code 20 = .ok (.iload_n 1, 1)) ∧ (decode prog_1_method_12_code 21 = .ok (.invokestatic 170, 3)) ∧ (decode prog_1_method_12_code 24 = .ok (.istore_n 3, 1)) ∧ (decode prog_1_method_12_code 25 = .ok (.aload_n 0, 1)) ∧ (decode prog_1_method_12_code 26 = .ok (.getfield 19, 3)) ∧ (decode prog_1_method_12_code 29 = .ok (.aload_n 0, 1)) ∧ (decode prog_1_method_12_code 30 = .ok (.getfield 19, 3)) ∧ (decode prog_1_method_12_code 33 = .ok (.getfield 106, 3)) ∧ (decode prog_1_method_12_code 36 = .ok (.iload_n 1, 1)) ∧ (decode prog_1_method_12_code 37 = .ok (.iload_n 2, 1)) ∧ (decode prog_1_method_12_code 38 = .ok (.invokestatic 173, 3)) ∧ (decode prog_1_method_12_code 41 = .ok (.putfield 106, 3)) ∧ (decode prog_1_method_12_code 44 = .ok (.iload_n 3, 1)) ∧ (decode prog_1_method_12_code 45 = .ok (.ireturn, 1)) := by
  have h : List.drop 0 prog_1_method_12_code.data.toList = 0x2a :: _ := rfl
  refine ⟨zq_k_n 42 h rfl (zq_o_42 _), ?_⟩
  replace h := zq_nx1 (q := 1) h rfl
  refine ⟨zq_k_u2 180 (fun z => .getfield z) 19 h rfl (zq_o_180 _) (by decide +kernel), ?_⟩
  replace h := zq_nx3 (q := 4) h rfl
  refine ⟨zq_k_n 27 h rfl (zq_o_27 _), ?_⟩
  replace h := zq_nx1 (q := 5) h rfl
  refine ⟨zq_k_u2 182 (fun z => .invokevirtual z) 109 h rfl (zq_o_182 _) (by decide +kernel), ?_⟩
  replace h := zq_nx3 (q := 8) h rfl
  refine ⟨zq_k_s2 154 (fun z => .ifCond .ne z) 5 h rfl (zq_o_154 _) (by decide +kernel), ?_⟩
  replace h := zq_nx3 (q := 11) h rfl
  refine ⟨zq_k_n 2 h rfl (zq_o_2 _), ?_⟩
  replace h := zq_nx1 (q := 12) h rfl
  refine ⟨zq_k_n 172 h rfl (zq_o_172 _), ?_⟩
  replace h := zq_nx1 (q := 13) h rfl
  refine ⟨zq_k_n 42 h rfl (zq_o_42 _), ?_⟩
  replace h := zq_nx1 (q := 14) h rfl
  refine ⟨zq_k_u2 180 (fun z => .getfield z) 19 h rfl (zq_o_180 _) (by decide +kernel), ?_⟩
  replace h := zq_nx3 (q := 17) h rfl
  refine ⟨zq_k_u2 180 (fun z => .getfield z) 106 h rfl (zq_o_180 _) (by decide +kernel), ?_⟩
  replace h := zq_nx3 (q := 20) h rfl
  refine ⟨zq_k_n 27 h rfl (zq_o_27 _), ?_⟩
  replace h := zq_nx1 (q := 21) h rfl
  refine ⟨zq_k_u2 184 (fun z => .invokestatic z) 170 h rfl (zq_o_184 _) (by decide +kernel), ?_⟩
  replace h := zq_nx3 (q := 24) h rfl
  refine ⟨zq_k_n 62 h rfl (zq_o_62 _), ?_⟩
  replace h := zq_nx1 (q := 25) h rfl
  refine ⟨zq_k_n 42 h rfl (zq_o_42 _), ?_⟩
  replace h := zq_nx1 (q := 26) h rfl
  refine ⟨zq_k_u2 180 (fun z => .getfield z) 19 h rfl (zq_o_180 _) (by decide +kernel), ?_⟩
  replace h := zq_nx3 (q := 29) h rfl
  refine ⟨zq_k_n 42 h rfl (zq_o_42 _), ?_⟩
  replace h := zq_nx1 (q := 30) h rfl
  refine ⟨zq_k_u2 180 (fun z => .getfield z) 19 h rfl (zq_o_180 _) (by decide +kernel), ?_⟩
  replace h := zq_nx3 (q := 33) h rfl
  refine ⟨zq_k_u2 180 (fun z => .getfield z) 106 h rfl (zq_o_180 _) (by decide +kernel), ?_⟩
  replace h := zq_nx3 (q := 36) h rfl
  refine ⟨zq_k_n 27 h rfl (zq_o_27 _), ?_⟩
  replace h := zq_nx1 (q := 37) h rfl
  refine ⟨zq_k_n 28 h rfl (zq_o_28 _), ?_⟩
  replace h := zq_nx1 (q := 38) h rfl
  refine ⟨zq_k_u2 184 (fun z => .invokestatic z) 173 h rfl (zq_o_184 _) (by decide +kernel), ?_⟩
  replace h := zq_nx3 (q := 41) h rfl
  refine ⟨zq_k_u2 181 (fun z => .putfield z) 106 h rfl (zq_o_181 _) (by decide +kernel), ?_⟩
  replace h := zq_nx3 (q := 44) h rfl
  refine ⟨zq_k_n 29 h rfl (zq_o_29 _), ?_⟩
  replace h := zq_nx1 (q := 45) h rfl
  exact zq_k_n 172 h rfl (zq_o_172 _)
def f_Q_watch_0  (a0 : Nat) (a1 : Int32) (a2 : Int32) (h : mH) : Option (Int32 × mH) :=
  bd1 (gR h a0 0 1) fun x1 =>
  bd1 (kC h x1 4) fun _ =>
  bd2 (f_Realm_hasLaw x1 a1 h) fun x7 h5 =>
  if x7 = 0 then
    some (((-1) : Int32), h5)
  else
    bd1 (gR h5 a0 0 1) fun x8 =>
    bd1 (gI h5 x8 4 5) fun x10 =>
    bd2 (f_Q_bitOf x10 a1 h5) fun x14 h12 =>
    bd1 (gR h12 a0 0 1) fun x15 =>
    bd1 (gR h12 a0 0 1) fun x17 =>
    bd1 (gI h12 x17 4 5) fun x19 =>
    bd2 (f_Q_withBit x19 a1 a2 h12) fun x23 h21 =>
    bd1 (pV h21 x15 4 5 (.int x23)) fun h24 =>
    some (x14, h24)
set_option maxRecDepth 20000 in
theorem t_Q_watch_0 {sc : Nat × (Nat → Int32)}  (a0 : Nat) (a1 : Int32) (a2 : Int32) (h : mH) (r : Int32) (h' : mH) (hf : f_Q_watch_0  a0 a1 a2 h = some (r, h')) : G sc y_Q_watch prog_1_method_12_code 4 (some .int) 1 22 0 [(0, .ref a0), (1, .int a1), (2, .int a2)] [] h (some (.int r)) h' := by
  unfold f_Q_watch_0 at hf
  refine g_aload_n (pc := 0) 0 dd_Q_watch_0.1 rfl rfl ?_
  obtain ⟨x1, e2, hf⟩ := bd1_e hf
  refine g_get (pc := 1) (ci := 0) (kk := 1) dd_Q_watch_0.2.1 rfl in_Q (by decide) wd_297 (gR_spec e2) ?_
  refine g_iload_n (pc := 4) 1 dd_Q_watch_0.2.2.1 rfl rfl ?_
  obtain ⟨u4, e3, hf⟩ := bd1_e hf
  obtain ⟨x7, h5, e6, hf⟩ := bd2_e hf
  refine g_callV (pc := 5) (ci := 4) [.int a1] (site_of si_Realm_hasLaw (by decide) (by decide)) wd_519 wd_488 wd_489 dd_Q_watch_0.2.2.2.1 rfl e3 (Nat.le_of_ble_eq_true rfl) (fun z => absurd z si_na_Realm_hasLaw) (fun z => absurd z si_na_Realm_hasLaw) (fun z => absurd z si_na_Realm_hasLaw) (c_Realm_hasLaw e6) rfl ?_
  refine g_st [.int x7] rfl ?_
  refine g_ifne (pc := 8) 13 dd_Q_watch_0.2.2.2.2.1 (by decide) (fun c26 => ?_) (fun c26 => ?_)
  · replace hf := (if_neg c26).symm.trans hf
    refine g_aload_n (pc := 13) 0 dd_Q_watch_0.2.2.2.2.2.2.2.1 rfl rfl ?_
    obtain ⟨x8, e9, hf⟩ := bd1_e hf
    refine g_get (pc := 14) (ci := 0) (kk := 1) dd_Q_watch_0.2.2.2.2.2.2.2.2.1 rfl in_Q (by decide) wd_297 (gR_spec e9) ?_
    obtain ⟨x10, e11, hf⟩ := bd1_e hf
    refine g_get (pc := 17) (ci := 4) (kk := 5) dd_Q_watch_0.2.2.2.2.2.2.2.2.2.1 rfl in_Realm (by decide) wd_111 (gI_spec e11) ?_
    refine g_iload_n (pc := 20) 1 dd_Q_watch_0.2.2.2.2.2.2.2.2.2.2.1 rfl rfl ?_
    obtain ⟨x14, h12, e13, hf⟩ := bd2_e hf
    refine g_callS (pc := 21) [.int x10, .int a1] (site_of si_Q_bitOf (by decide) (by decide)) wd_588 wd_589 dd_Q_watch_0.2.2.2.2.2.2.2.2.2.2.2.1 (Nat.le_of_ble_eq_true rfl) (fun z => absurd z si_na_Q_bitOf) (fun z => absurd z si_na_Q_bitOf) (fun z => absurd z si_na_Q_bitOf) (c_Q_bitOf e13) rfl ?_
    refine g_st [.int x14] rfl ?_
    refine g_istore_n (pc := 24) [(3, .int x14), (0, .ref a0), (1, .int a1), (2, .int a2)] dd_Q_watch_0.2.2.2.2.2.2.2.2.2.2.2.2.1 rfl (Nat.le_of_ble_eq_true rfl) rfl ?_
    refine g_aload_n (pc := 25) 1 dd_Q_watch_0.2.2.2.2.2.2.2.2.2.2.2.2.2.1 rfl rfl ?_
    obtain ⟨x15, e16, hf⟩ := bd1_e hf
    refine g_get (pc := 26) (ci := 0) (kk := 1) dd_Q_watch_0.2.2.2.2.2.2.2.2.2.2.2.2.2.2.1 rfl in_Q (by decide) wd_297 (gR_spec e16) ?_
    refine g_aload_n (pc := 29) 1 dd_Q_watch_0.2.2.2.2.2.2.2.2.2.2.2.2.2.2.2.1 rfl rfl ?_
    obtain ⟨x17, e18, hf⟩ := bd1_e hf
    refine g_get (pc := 30) (ci := 0) (kk := 1) dd_Q_watch_0.2.2.2.2.2.2.2.2.2.2.2.2.2.2.2.2.1 rfl in_Q (by decide) wd_297 (gR_spec e18) ?_
    obtain ⟨x19, e20, hf⟩ := bd1_e hf
    refine g_get (pc := 33) (ci := 4) (kk := 5) dd_Q_watch_0.2.2.2.2.2.2.2.2.2.2.2.2.2.2.2.2.2.1 rfl in_Realm (by decide) wd_111 (gI_spec e20) ?_
    refine g_iload_n (pc := 36) 2 dd_Q_watch_0.2.2.2.2.2.2.2.2.2.2.2.2.2.2.2.2.2.2.1 rfl rfl ?_
    refine g_iload_n (pc := 37) 3 dd_Q_watch_0.2.2.2.2.2.2.2.2.2.2.2.2.2.2.2.2.2.2.2.1 rfl rfl ?_
    obtain ⟨x23, h21, e22, hf⟩ := bd2_e hf
    refine g_callS (pc := 38) [.int x19, .int a1, .int a2] (site_of si_Q_withBit (by decide) (by decide)) wd_591 wd_592 dd_Q_watch_0.2.2.2.2.2.2.2.2.2.2.2.2.2.2.2.2.2.2.2.2.1 (Nat.le_of_ble_eq_true rfl) (fun z => absurd z si_na_Q_withBit) (fun z => absurd z si_na_Q_withBit) (fun z => absurd z si_na_Q_withBit) (c_Q_withBit e22) rfl ?_
    refine g_st [.int x23, .ref x15] rfl ?_
    obtain ⟨h24, e25, hf⟩ := bd1_e hf
    refine g_put (pc := 41) (ci := 4) (kk := 5) ty_Realm tyok_Realm nm_Realm dd_Q_watch_0.2.2.2.2.2.2.2.2.2.2.2.2.2.2.2.2.2.2.2.2.2.1 rfl in_Realm (by decide) wd_111 rfl (fun _ => rfl) (fun _ => rfl) (fun _ z => by cases z) e25 ?_
    refine g_iload_n (pc := 44) 0 dd_Q_watch_0.2.2.2.2.2.2.2.2.2.2.2.2.2.2.2.2.2.2.2.2.2.2.1 rfl rfl ?_
    obtain ⟨rfl, rfl⟩ := ret2 hf
    exact g_iret (pc := 45) rfl dd_Q_watch_0.2.2.2.2.2.2.2.2.2.2.2.2.2.2.2.2.2.2.2.2.2.2.2
  · replace hf := (if_pos c26).symm.trans hf
    refine g_iconst (pc := 11) ((-1) : Int32) dd_Q_watch_0.2.2.2.2.2.1 (by decide) ?_
    obtain ⟨rfl, rfl⟩ := ret2 hf
    exact g_iret (pc := 12) rfl dd_Q_watch_0.2.2.2.2.2.2.1
def f_Q_watch (a0 : Nat) (a1 : Int32) (a2 : Int32) (h : mH) : Option (Int32 × mH) := f_Q_watch_0 a0 a1 a2 h
theorem c_Q_watch {sc : Nat × (Nat → Int32)} {a0 : Nat} {a1 : Int32} {a2 : Int32} {h : mH} {r : Int32} {h' : mH} (hf : f_Q_watch a0 a1 a2 h = some (r, h')) : MM sc y_Q_watch prog_1_method_12_code 4 (some .int) 1 22 [.ref a0, .int a1, .int a2] h (some (.int r)) h' :=
  mm_of_G si_pn_Q (Nat.le_of_ble_eq_true rfl) (t_Q_watch_0 _ _ _ _ _ _ hf)
/-! Q time (II)I -/
set_option maxRecDepth 100000 in
theorem dd_Q_time_0 : (decode prog_1_method_13_code 0 = .ok (.aload_n 0, 1)) ∧ (decode prog_1_method_13_code 1 = .ok (.getfield 19, 3)) ∧ (decode prog_1_method_13_code 4 = .ok (.iload_n 1, 1)) ∧ (decode prog_1_method_13_code 5 = .ok (.invokevirtual 135, 3)) ∧ (decode prog_1_method_13_code 8 = .ok (.ifCond .eq 12, 3)) ∧ (decode prog_1_method_13_code 11 = .ok (.iload_n 2, 1)) ∧ (decode prog_1_method_13_code 12 = .ok (.iconst 0, 1)) ∧ (decode prog_1_method_13_code 13 = .ok (.iconst 5, 1)) ∧ (decode prog_1_method_13_code 14 = .ok (.invokestatic 62, 3)) ∧ (decode prog_1_method_13_code 17 = .ok (.ifCond .ne 5, 3)) ∧ (decode prog_1_method_13_code 20 = .ok (.iconst (-1), 1)) ∧ (decode prog_1_method_13_code 21 = .ok (.ireturn, 1)) ∧ (decode prog_1_method_13_code 22 = .ok (.aload_n 0, 1)) ∧ (decode prog_1_method_13_code 23 = .ok (.getfield 19, 3)) ∧ (decode prog_1_method_13_code 26 = .ok (.getfield 138, 3)) ∧ (decode prog_1_method_13_code 29 = .ok (.iload_n 1, 1)) ∧ (decode prog_1_method_13_code 30 = .ok (.iaload, 1)) ∧ (decode prog_1_method_13_code 31 = .ok (.istore_n 3, 1)) ∧ (decode prog_1_method_13_code 32 = .ok (.aload_n 0, 1)) ∧ (decode prog_1_method_13_code 33 = .ok (.getfield 19, 3)) ∧ (decode prog_1_method_13_code 36 = .ok (.getfield 138, 3)) ∧ (decode prog_1_method_13_code 39 = .ok (.iload_n 1, 1)) ∧ (decode prog_1_method_13_code 40 = .ok (.iload_n 2, 1)) ∧ (decode prog_1_method_13_code 41 = .ok (.iastore, 1)) := by
  have h : List.drop 0 prog_1_method_13_code.data.toList = 0x2a :: _ := rfl
  refine ⟨zq_k_n 42 h rfl (zq_o_42 _), ?_⟩
  replace h := zq_nx1 (q := 1) h rfl
  refine ⟨zq_k_u2 180 (fun z => .getfield z) 19 h rfl (zq_o_180 _) (by decide +kernel), ?_⟩
  replace h := zq_nx3 (q := 4) h rfl
  refine ⟨zq_k_n 27 h rfl (zq_o_27 _), ?_⟩
  replace h := zq_nx1 (q := 5) h rfl
  refine ⟨zq_k_u2 182 (fun z => .invokevirtual z) 135 h rfl (zq_o_182 _) (by decide +kernel), ?_⟩
  replace h := zq_nx3 (q := 8) h rfl
  refine ⟨zq_k_s2 153 (fun z => .ifCond .eq z) 12 h rfl (zq_o_153 _) (by decide +kernel), ?_⟩
  replace h := zq_nx3 (q := 11) h rfl
  refine ⟨zq_k_n 28 h rfl (zq_o_28 _), ?_⟩
  replace h := zq_nx1 (q := 12) h rfl
  refine ⟨zq_k_n 3 h rfl (zq_o_3 _), ?_⟩
  replace h := zq_nx1 (q := 13) h rfl
  refine ⟨zq_k_n 8 h rfl (zq_o_8 _), ?_⟩
  replace h := zq_nx1 (q := 14) h rfl
  refine ⟨zq_k_u2 184 (fun z => .invokestatic z) 62 h rfl (zq_o_184 _) (by decide +kernel), ?_⟩
  replace h := zq_nx3 (q := 17) h rfl
  refine ⟨zq_k_s2 154 (fun z => .ifCond .ne z) 5 h rfl (zq_o_154 _) (by decide +kernel), ?_⟩
  replace h := zq_nx3 (q := 20) h rfl
  refine ⟨zq_k_n 2 h rfl (zq_o_2 _), ?_⟩
  replace h := zq_nx1 (q := 21) h rfl
  refine ⟨zq_k_n 172 h rfl (zq_o_172 _), ?_⟩
  replace h := zq_nx1 (q := 22) h rfl
  refine ⟨zq_k_n 42 h rfl (zq_o_42 _), ?_⟩
  replace h := zq_nx1 (q := 23) h rfl
  refine ⟨zq_k_u2 180 (fun z => .getfield z) 19 h rfl (zq_o_180 _) (by decide +kernel), ?_⟩
  replace h := zq_nx3 (q := 26) h rfl
  refine ⟨zq_k_u2 180 (fun z => .getfield z) 138 h rfl (zq_o_180 _) (by decide +kernel), ?_⟩
  replace h := zq_nx3 (q := 29) h rfl
  refine ⟨zq_k_n 27 h rfl (zq_o_27 _), ?_⟩
  replace h := zq_nx1 (q := 30) h rfl
  refine ⟨zq_k_n 46 h rfl (zq_o_46 _), ?_⟩
  replace h := zq_nx1 (q := 31) h rfl
  refine ⟨zq_k_n 62 h rfl (zq_o_62 _), ?_⟩
  replace h := zq_nx1 (q := 32) h rfl
  refine ⟨zq_k_n 42 h rfl (zq_o_42 _), ?_⟩
  replace h := zq_nx1 (q := 33) h rfl
  refine ⟨zq_k_u2 180 (fun z => .getfield z) 19 h rfl (zq_o_180 _) (by decide +kernel), ?_⟩
  replace h := zq_nx3 (q := 36) h rfl
  refine ⟨zq_k_u2 180 (fun z => .getfield z) 138 h rfl (zq_o_180 _) (by decide +kernel), ?_⟩
  replace h := zq_nx3 (q := 39) h rfl
  refine ⟨zq_k_n 27 h rfl (zq_o_27 _), ?_⟩
  replace h := zq_nx1 (q := 40) h rfl
  refine ⟨zq_k_n 28 h rfl (zq_o_28 _), ?_⟩
  replace h := zq_nx1 (q := 41) h rfl
  exact zq_k_n 79 h rfl (zq_o_79 _)
set_option maxRecDepth 100000 in
theorem dd_Q_time_42 : (decode prog_1_method_13_code 42 = .ok (.iload_n 3, 1)) ∧ (decode prog_1_method_13_code 43 = .ok (.ireturn, 1)) := by
  have h : List.drop 42 prog_1_method_13_code.data.toList = 0x1d :: _ := rfl
  refine ⟨zq_k_n 29 h rfl (zq_o_29 _), ?_⟩
  replace h := zq_nx1 (q := 43) h rfl
  exact zq_k_n 172 h rfl (zq_o_172 _)
def f_Q_time_20   (h : mH) : Option (Int32 × mH) :=
  some (((-1) : Int32), h)
set_option maxRecDepth 20000 in
theorem t_Q_time_20 {sc : Nat × (Nat → Int32)}   (h : mH) (r : Int32) (h' : mH) (hf : f_Q_time_20   h = some (r, h')) : G sc y_Q_time prog_1_method_13_code 4 (some .int) 1 22 20 [] [] h (some (.int r)) h' := by
  unfold f_Q_time_20 at hf
  refine g_iconst (pc := 20) ((-1) : Int32) dd_Q_time_0.2.2.2.2.2.2.2.2.2.2.1 (by decide) ?_
  obtain ⟨rfl, rfl⟩ := ret2 hf
  exact g_iret (pc := 21) rfl dd_Q_time_0.2.2.2.2.2.2.2.2.2.2.2.1
def f_Q_time_0  (a0 : Nat) (a1 : Int32) (a2 : Int32) (h : mH) : Option (Int32 × mH) :=
  bd1 (gR h a0 0 1) fun x1 =>
  bd1 (kC h x1 4) fun _ =>
  bd2 (f_Realm_hasOne x1 a1 h) fun x7 h5 =>
  if x7 = 0 then
    f_Q_time_20  h5
  else
    bd2 (f_Q_isWithin a2 (0 : Int32) (5 : Int32) h5) fun x10 h8 =>
    if x10 = 0 then
      f_Q_time_20  h8
    else
      bd1 (gR h8 a0 0 1) fun x11 =>
      bd1 (gR h8 x11 4 11) fun x13 =>
      bd1 (aI h8 0 x13 a1) fun x15 =>
      bd1 (gR h8 a0 0 1) fun x17 =>
      bd1 (gR h8 x17 4 11) fun x19 =>
      bd1 (sI h8 0 x19 a1 a2) fun h21 =>
      some (x15, h21)
set_option maxRecDepth 20000 in
theorem t_Q_time_0 {sc : Nat × (Nat → Int32)}  (a0 : Nat) (a1 : Int32) (a2 : Int32) (h : mH) (r : Int32) (h' : mH) (hf : f_Q_time_0  a0 a1 a2 h = some (r, h')) : G sc y_Q_time prog_1_method_13_code 4 (some .int) 1 22 0 [(0, .ref a0), (1, .int a1), (2, .int a2)] [] h (some (.int r)) h' := by
  unfold f_Q_time_0 at hf
  refine g_aload_n (pc := 0) 0 dd_Q_time_0.1 rfl rfl ?_
  obtain ⟨x1, e2, hf⟩ := bd1_e hf
  refine g_get (pc := 1) (ci := 0) (kk := 1) dd_Q_time_0.2.1 rfl in_Q (by decide) wd_297 (gR_spec e2) ?_
  refine g_iload_n (pc := 4) 1 dd_Q_time_0.2.2.1 rfl rfl ?_
  obtain ⟨u4, e3, hf⟩ := bd1_e hf
  obtain ⟨x7, h5, e6, hf⟩ := bd2_e hf
  refine g_callV (pc := 5) (ci := 4) [.int a1] (site_of si_Realm_hasOne (by decide) (by decide)) wd_541 wd_492 wd_493 dd_Q_time_0.2.2.2.1 rfl e3 (Nat.le_of_ble_eq_true rfl) (fun z => absurd z si_na_Realm_hasOne) (fun z => absurd z si_na_Realm_hasOne) (fun z => absurd z si_na_Realm_hasOne) (c_Realm_hasOne e6) rfl ?_
  refine g_st [.int x7] rfl ?_
  refine g_ifeq (pc := 8) 20 dd_Q_time_0.2.2.2.2.1 (by decide) (fun c24 => ?_) (fun c24 => ?_)
  · replace hf := (if_pos c24).symm.trans hf
    refine g_lv [] rfl ?_
    exact t_Q_time_20  _ _ _  hf
  · replace hf := (if_neg c24).symm.trans hf
    refine g_iload_n (pc := 11) 2 dd_Q_time_0.2.2.2.2.2.1 rfl rfl ?_
    refine g_iconst (pc := 12) (0 : Int32) dd_Q_time_0.2.2.2.2.2.2.1 (by decide) ?_
    refine g_iconst (pc := 13) (5 : Int32) dd_Q_time_0.2.2.2.2.2.2.2.1 (by decide) ?_
    obtain ⟨x10, h8, e9, hf⟩ := bd2_e hf
    refine g_callS (pc := 14) [.int a2, .int (0 : Int32), .int (5 : Int32)] (site_of si_Q_isWithin (by decide) (by decide)) wd_331 wd_332 dd_Q_time_0.2.2.2.2.2.2.2.2.1 (Nat.le_of_ble_eq_true rfl) (fun z => absurd z si_na_Q_isWithin) (fun z => absurd z si_na_Q_isWithin) (fun z => absurd z si_na_Q_isWithin) (c_Q_isWithin e9) rfl ?_
    refine g_st [.int x10] rfl ?_
    refine g_ifne (pc := 17) 22 dd_Q_time_0.2.2.2.2.2.2.2.2.2.1 (by decide) (fun c23 => ?_) (fun c23 => ?_)
    · replace hf := (if_neg c23).symm.trans hf
      refine g_aload_n (pc := 22) 0 dd_Q_time_0.2.2.2.2.2.2.2.2.2.2.2.2.1 rfl rfl ?_
      obtain ⟨x11, e12, hf⟩ := bd1_e hf
      refine g_get (pc := 23) (ci := 0) (kk := 1) dd_Q_time_0.2.2.2.2.2.2.2.2.2.2.2.2.2.1 rfl in_Q (by decide) wd_297 (gR_spec e12) ?_
      obtain ⟨x13, e14, hf⟩ := bd1_e hf
      refine g_get (pc := 26) (ci := 4) (kk := 11) dd_Q_time_0.2.2.2.2.2.2.2.2.2.2.2.2.2.2.1 rfl in_Realm (by decide) wd_133 (gR_spec e14) ?_
      refine g_iload_n (pc := 29) 1 dd_Q_time_0.2.2.2.2.2.2.2.2.2.2.2.2.2.2.2.1 rfl rfl ?_
      obtain ⟨x15, e16, hf⟩ := bd1_e hf
      refine g_iald (pc := 30) dd_Q_time_0.2.2.2.2.2.2.2.2.2.2.2.2.2.2.2.2.1 e16 ?_
      refine g_istore_n (pc := 31) [(3, .int x15), (0, .ref a0), (1, .int a1), (2, .int a2)] dd_Q_time_0.2.2.2.2.2.2.2.2.2.2.2.2.2.2.2.2.2.1 rfl (Nat.le_of_ble_eq_true rfl) rfl ?_
      refine g_aload_n (pc := 32) 1 dd_Q_time_0.2.2.2.2.2.2.2.2.2.2.2.2.2.2.2.2.2.2.1 rfl rfl ?_
      obtain ⟨x17, e18, hf⟩ := bd1_e hf
      refine g_get (pc := 33) (ci := 0) (kk := 1) dd_Q_time_0.2.2.2.2.2.2.2.2.2.2.2.2.2.2.2.2.2.2.2.1 rfl in_Q (by decide) wd_297 (gR_spec e18) ?_
      obtain ⟨x19, e20, hf⟩ := bd1_e hf
      refine g_get (pc := 36) (ci := 4) (kk := 11) dd_Q_time_0.2.2.2.2.2.2.2.2.2.2.2.2.2.2.2.2.2.2.2.2.1 rfl in_Realm (by decide) wd_133 (gR_spec e20) ?_
      refine g_iload_n (pc := 39) 2 dd_Q_time_0.2.2.2.2.2.2.2.2.2.2.2.2.2.2.2.2.2.2.2.2.2.1 rfl rfl ?_
      refine g_iload_n (pc := 40) 3 dd_Q_time_0.2.2.2.2.2.2.2.2.2.2.2.2.2.2.2.2.2.2.2.2.2.2.1 rfl rfl ?_
      obtain ⟨h21, e22, hf⟩ := bd1_e hf
      refine g_iast (pc := 41) dd_Q_time_0.2.2.2.2.2.2.2.2.2.2.2.2.2.2.2.2.2.2.2.2.2.2.2 e22 ?_
      refine g_iload_n (pc := 42) 0 dd_Q_time_42.1 rfl rfl ?_
      obtain ⟨rfl, rfl⟩ := ret2 hf
      exact g_iret (pc := 43) rfl dd_Q_time_42.2
    · replace hf := (if_pos c23).symm.trans hf
      refine g_lv [] rfl ?_
      exact t_Q_time_20  _ _ _  hf
def f_Q_time (a0 : Nat) (a1 : Int32) (a2 : Int32) (h : mH) : Option (Int32 × mH) := f_Q_time_0 a0 a1 a2 h
theorem c_Q_time {sc : Nat × (Nat → Int32)} {a0 : Nat} {a1 : Int32} {a2 : Int32} {h : mH} {r : Int32} {h' : mH} (hf : f_Q_time a0 a1 a2 h = some (r, h')) : MM sc y_Q_time prog_1_method_13_code 4 (some .int) 1 22 [.ref a0, .int a1, .int a2] h (some (.int r)) h' :=
  mm_of_G si_pn_Q (Nat.le_of_ble_eq_true rfl) (t_Q_time_0 _ _ _ _ _ _ hf)
/-! Q refuse (IIZ)I -/
set_option maxRecDepth 100000 in
theorem dd_Q_refuse_0 : (decode prog_1_method_14_code 0 = .ok (.aload_n 0, 1)) ∧ (decode prog_1_method_14_code 1 = .ok (.getfield 19, 3)) ∧ (decode prog_1_method_14_code 4 = .ok (.iload_n 1, 1)) ∧ (decode prog_1_method_14_code 5 = .ok (.iload_n 2, 1)) ∧ (decode prog_1_method_14_code 6 = .ok (.invokevirtual 162, 3)) ∧ (decode prog_1_method_14_code 9 = .ok (.ifCond .ne 5, 3)) ∧ (decode prog_1_method_14_code 12 = .ok (.iconst (-1), 1)) ∧ (decode prog_1_method_14_code 13 = .ok (.ireturn, 1)) ∧ (decode prog_1_method_14_code 14 = .ok (.aload_n 0, 1)) ∧ (decode prog_1_method_14_code 15 = .ok (.getfield 19, 3)) ∧ (decode prog_1_method_14_code 18 = .ok (.getfield 150, 3)) ∧ (decode prog_1_method_14_code 21 = .ok (.iload_n 1, 1)) ∧ (decode prog_1_method_14_code 22 = .ok (.iaload, 1)) ∧ (decode prog_1_method_14_code 23 = .ok (.iload_n 2, 1)) ∧ (decode prog_1_method_14_code 24 = .ok (.invokestatic 170, 3)) ∧ (decode prog_1_method_14_code 27 = .ok (.istore 4, 2)) ∧ (decode prog_1_method_14_code 29 = .ok (.aload_n 0, 1)) ∧ (decode prog_1_method_14_code 30 = .ok (.getfield 19, 3)) ∧ (decode prog_1_method_14_code 33 = .ok (.getfield 150, 3)) ∧ (decode prog_1_method_14_code 36 = .ok (.iload_n 1, 1)) ∧ (decode prog_1_method_14_code 37 = .ok (.aload_n 0, 1)) ∧ (decode prog_1_method_14_code 38 = .ok (.getfield 19, 3)) ∧ (decode prog_1_method_14_code 41 = .ok (.getfield 150, 3)) ∧ (decode prog_1_method_14_code 44 = .ok (.iload_n 1, 1)) := by
  have h : List.drop 0 prog_1_method_14_code.data.toList = 0x2a :: _ := rfl
  refine ⟨zq_k_n 42 h rfl (zq_o_42 _), ?_⟩
  replace h := zq_nx1 (q := 1) h rfl
  refine ⟨zq_k_u2 180 (fun z => .getfield z) 19 h rfl (zq_o_180 _) (by decide +kernel), ?_⟩
  replace h := zq_nx3 (q := 4) h rfl
  refine ⟨zq_k_n 27 h rfl (zq_o_27 _), ?_⟩
  replace h := zq_nx1 (q := 5) h rfl
  refine ⟨zq_k_n 28 h rfl (zq_o_28 _), ?_⟩
  replace h := zq_nx1 (q := 6) h rfl
  refine ⟨zq_k_u2 182 (fun z => .invokevirtual z) 162 h rfl (zq_o_182 _) (by decide +kernel), ?_⟩
  replace h := zq_nx3 (q := 9) h rfl
  refine ⟨zq_k_s2 154 (fun z => .ifCond .ne z) 5 h rfl (zq_o_154 _) (by decide +kernel), ?_⟩
  replace h := zq_nx3 (q := 12) h rfl
  refine ⟨zq_k_n 2 h rfl (zq_o_2 _), ?_⟩
  replace h := zq_nx1 (q := 13) h rfl
  refine ⟨zq_k_n 172 h rfl (zq_o_172 _), ?_⟩
  replace h := zq_nx1 (q := 14) h rfl
  refine ⟨zq_k_n 42 h rfl (zq_o_42 _), ?_⟩
  replace h := zq_nx1 (q := 15) h rfl
  refine ⟨zq_k_u2 180 (fun z => .getfield z) 19 h rfl (zq_o_180 _) (by decide +kernel), ?_⟩
  replace h := zq_nx3 (q := 18) h rfl
  refine ⟨zq_k_u2 180 (fun z => .getfield z) 150 h rfl (zq_o_180 _) (by decide +kernel), ?_⟩
  replace h := zq_nx3 (q := 21) h rfl
  refine ⟨zq_k_n 27 h rfl (zq_o_27 _), ?_⟩
  replace h := zq_nx1 (q := 22) h rfl
  refine ⟨zq_k_n 46 h rfl (zq_o_46 _), ?_⟩
  replace h := zq_nx1 (q := 23) h rfl
  refine ⟨zq_k_n 28 h rfl (zq_o_28 _), ?_⟩
  replace h := zq_nx1 (q := 24) h rfl
  refine ⟨zq_k_u2 184 (fun z => .invokestatic z) 170 h rfl (zq_o_184 _) (by decide +kernel), ?_⟩
  replace h := zq_nx3 (q := 27) h rfl
  refine ⟨zq_k_u1 54 (fun z => .istore z) 4 h rfl (zq_o_54 _) (by decide +kernel), ?_⟩
  replace h := zq_nx2 (q := 29) h rfl
  refine ⟨zq_k_n 42 h rfl (zq_o_42 _), ?_⟩
  replace h := zq_nx1 (q := 30) h rfl
  refine ⟨zq_k_u2 180 (fun z => .getfield z) 19 h rfl (zq_o_180 _) (by decide +kernel), ?_⟩
  replace h := zq_nx3 (q := 33) h rfl
  refine ⟨zq_k_u2 180 (fun z => .getfield z) 150 h rfl (zq_o_180 _) (by decide +kernel), ?_⟩
  replace h := zq_nx3 (q := 36) h rfl
  refine ⟨zq_k_n 27 h rfl (zq_o_27 _), ?_⟩
  replace h := zq_nx1 (q := 37) h rfl
  refine ⟨zq_k_n 42 h rfl (zq_o_42 _), ?_⟩
  replace h := zq_nx1 (q := 38) h rfl
  refine ⟨zq_k_u2 180 (fun z => .getfield z) 19 h rfl (zq_o_180 _) (by decide +kernel), ?_⟩
  replace h := zq_nx3 (q := 41) h rfl
  refine ⟨zq_k_u2 180 (fun z => .getfield z) 150 h rfl (zq_o_180 _) (by decide +kernel), ?_⟩
  replace h := zq_nx3 (q := 44) h rfl
  exact zq_k_n 27 h rfl (zq_o_27 _)
set_option maxRecDepth 100000 in
theorem dd_Q_refuse_45 : (decode prog_1_method_14_code 45 = .ok (.iaload, 1)) ∧ (decode prog_1_method_14_code 46 = .ok (.iload_n 2, 1)) ∧ (decode prog_1_method_14_code 47 = .ok (.iload_n 3, 1)) ∧ (decode prog_1_method_14_code 48 = .ok (.invokestatic 173, 3)) ∧ (decode prog_1_method_14_code 51 = .ok (.iastore, 1)) ∧ (decode prog_1_method_14_code 52 = .ok (.iload 4, 2)) ∧ (decode prog_1_method_14_code 54 = .ok (.ireturn, 1)) := by
  have h : List.drop 45 prog_1_method_14_code.data.toList = 0x2e :: _ := rfl
  refine ⟨zq_k_n 46 h rfl (zq_o_46 _), ?_⟩
  replace h := zq_nx1 (q := 46) h rfl
  refine ⟨zq_k_n 28 h rfl (zq_o_28 _), ?_⟩
  replace h := zq_nx1 (q := 47) h rfl
  refine ⟨zq_k_n 29 h rfl (zq_o_29 _), ?_⟩
  replace h := zq_nx1 (q := 48) h rfl
  refine ⟨zq_k_u2 184 (fun z => .invokestatic z) 173 h rfl (zq_o_184 _) (by decide +kernel), ?_⟩
  replace h := zq_nx3 (q := 51) h rfl
  refine ⟨zq_k_n 79 h rfl (zq_o_79 _), ?_⟩
  replace h := zq_nx1 (q := 52) h rfl
  refine ⟨zq_k_u1 21 (fun z => .iload z) 4 h rfl (zq_o_21 _) (by decide +kernel), ?_⟩
  replace h := zq_nx2 (q := 54) h rfl
  exact zq_k_n 172 h rfl (zq_o_172 _)
def f_Q_refuse_0  (a0 : Nat) (a1 : Int32) (a2 : Int32) (a3 : Int32) (h : mH) : Option (Int32 × mH) :=
  bd1 (gR h a0 0 1) fun x1 =>
  bd1 (kC h x1 4) fun _ =>
  bd2 (f_Realm_hasBoth x1 a1 a2 h) fun x7 h5 =>
  if x7 = 0 then
    some (((-1) : Int32), h5)
  else
    bd1 (gR h5 a0 0 1) fun x8 =>
    bd1 (gR h5 x8 4 15) fun x10 =>
    bd1 (aI h5 0 x10 a1) fun x12 =>
    bd2 (f_Q_bitOf x12 a2 h5) fun x16 h14 =>
    bd1 (gR h14 a0 0 1) fun x17 =>
    bd1 (gR h14 x17 4 15) fun x19 =>
    bd1 (gR h14 a0 0 1) fun x21 =>
    bd1 (gR h14 x21 4 15) fun x23 =>
    bd1 (aI h14 0 x23 a1) fun x25 =>
    bd2 (f_Q_withBit x25 a2 a3 h14) fun x29 h27 =>
    bd1 (sI h27 0 x19 a1 x29) fun h30 =>
    some (x16, h30)
set_option maxRecDepth 20000 in
theorem t_Q_refuse_0 {sc : Nat × (Nat → Int32)}  (a0 : Nat) (a1 : Int32) (a2 : Int32) (a3 : Int32) (h : mH) (r : Int32) (h' : mH) (hf : f_Q_refuse_0  a0 a1 a2 a3 h = some (r, h')) : G sc y_Q_refuse prog_1_method_14_code 5 (some .int) 2 43 0 [(0, .ref a0), (1, .int a1), (2, .int a2), (3, .int a3)] [] h (some (.int r)) h' := by
  unfold f_Q_refuse_0 at hf
  refine g_aload_n (pc := 0) 0 dd_Q_refuse_0.1 rfl rfl ?_
  obtain ⟨x1, e2, hf⟩ := bd1_e hf
  refine g_get (pc := 1) (ci := 0) (kk := 1) dd_Q_refuse_0.2.1 rfl in_Q (by decide) wd_297 (gR_spec e2) ?_
  refine g_iload_n (pc := 4) 1 dd_Q_refuse_0.2.2.1 rfl rfl ?_
  refine g_iload_n (pc := 5) 2 dd_Q_refuse_0.2.2.2.1 rfl rfl ?_
  obtain ⟨u4, e3, hf⟩ := bd1_e hf
  obtain ⟨x7, h5, e6, hf⟩ := bd2_e hf
  refine g_callV (pc := 6) (ci := 4) [.int a1, .int a2] (site_of si_Realm_hasBoth (by decide) (by decide)) wd_570 wd_571 wd_572 dd_Q_refuse_0.2.2.2.2.1 rfl e3 (Nat.le_of_ble_eq_true rfl) (fun z => absurd z si_na_Realm_hasBoth) (fun z => absurd z si_na_Realm_hasBoth) (fun z => absurd z si_na_Realm_hasBoth) (c_Realm_hasBoth e6) rfl ?_
  refine g_st [.int x7] rfl ?_
  refine g_ifne (pc := 9) 14 dd_Q_refuse_0.2.2.2.2.2.1 (by decide) (fun c32 => ?_) (fun c32 => ?_)
  · replace hf := (if_neg c32).symm.trans hf
    refine g_aload_n (pc := 14) 0 dd_Q_refuse_0.2.2.2.2.2.2.2.2.1 rfl rfl ?_
    obtain ⟨x8, e9, hf⟩ := bd1_e hf
    refine g_get (pc := 15) (ci := 0) (kk := 1) dd_Q_refuse_0.2.2.2.2.2.2.2.2.2.1 rfl in_Q (by decide) wd_297 (gR_spec e9) ?_
    obtain ⟨x10, e11, hf⟩ := bd1_e hf
    refine g_get (pc := 18) (ci := 4) (kk := 15) dd_Q_refuse_0.2.2.2.2.2.2.2.2.2.2.1 rfl in_Realm (by decide) wd_148 (gR_spec e11) ?_
    refine g_iload_n (pc := 21) 1 dd_Q_refuse_0.2.2.2.2.2.2.2.2.2.2.2.1 rfl rfl ?_
    obtain ⟨x12, e13, hf⟩ := bd1_e hf
    refine g_iald (pc := 22) dd_Q_refuse_0.2.2.2.2.2.2.2.2.2.2.2.2.1 e13 ?_
    refine g_iload_n (pc := 23) 2 dd_Q_refuse_0.2.2.2.2.2.2.2.2.2.2.2.2.2.1 rfl rfl ?_
    obtain ⟨x16, h14, e15, hf⟩ := bd2_e hf
    refine g_callS (pc := 24) [.int x12, .int a2] (site_of si_Q_bitOf (by decide) (by decide)) wd_588 wd_589 dd_Q_refuse_0.2.2.2.2.2.2.2.2.2.2.2.2.2.2.1 (Nat.le_of_ble_eq_true rfl) (fun z => absurd z si_na_Q_bitOf) (fun z => absurd z si_na_Q_bitOf) (fun z => absurd z si_na_Q_bitOf) (c_Q_bitOf e15) rfl ?_
    refine g_st [.int x16] rfl ?_
    refine g_istore (pc := 27) [(4, .int x16), (0, .ref a0), (1, .int a1), (2, .int a2), (3, .int a3)] dd_Q_refuse_0.2.2.2.2.2.2.2.2.2.2.2.2.2.2.2.1 (Nat.le_of_ble_eq_true rfl) rfl ?_
    refine g_aload_n (pc := 29) 1 dd_Q_refuse_0.2.2.2.2.2.2.2.2.2.2.2.2.2.2.2.2.1 rfl rfl ?_
    obtain ⟨x17, e18, hf⟩ := bd1_e hf
    refine g_get (pc := 30) (ci := 0) (kk := 1) dd_Q_refuse_0.2.2.2.2.2.2.2.2.2.2.2.2.2.2.2.2.2.1 rfl in_Q (by decide) wd_297 (gR_spec e18) ?_
    obtain ⟨x19, e20, hf⟩ := bd1_e hf
    refine g_get (pc := 33) (ci := 4) (kk := 15) dd_Q_refuse_0.2.2.2.2.2.2.2.2.2.2.2.2.2.2.2.2.2.2.1 rfl in_Realm (by decide) wd_148 (gR_spec e20) ?_
    refine g_iload_n (pc := 36) 2 dd_Q_refuse_0.2.2.2.2.2.2.2.2.2.2.2.2.2.2.2.2.2.2.2.1 rfl rfl ?_
    refine g_aload_n (pc := 37) 1 dd_Q_refuse_0.2.2.2.2.2.2.2.2.2.2.2.2.2.2.2.2.2.2.2.2.1 rfl rfl ?_
    obtain ⟨x21, e22, hf⟩ := bd1_e hf
    refine g_get (pc := 38) (ci := 0) (kk := 1) dd_Q_refuse_0.2.2.2.2.2.2.2.2.2.2.2.2.2.2.2.2.2.2.2.2.2.1 rfl in_Q (by decide) wd_297 (gR_spec e22) ?_
    obtain ⟨x23, e24, hf⟩ := bd1_e hf
    refine g_get (pc := 41) (ci := 4) (kk := 15) dd_Q_refuse_0.2.2.2.2.2.2.2.2.2.2.2.2.2.2.2.2.2.2.2.2.2.2.1 rfl in_Realm (by decide) wd_148 (gR_spec e24) ?_
    refine g_iload_n (pc := 44) 2 dd_Q_refuse_0.2.2.2.2.2.2.2.2.2.2.2.2.2.2.2.2.2.2.2.2.2.2.2 rfl rfl ?_
    obtain ⟨x25, e26, hf⟩ := bd1_e hf
    refine g_iald (pc := 45) dd_Q_refuse_45.1 e26 ?_
    refine g_iload_n (pc := 46) 3 dd_Q_refuse_45.2.1 rfl rfl ?_
    refine g_iload_n (pc := 47) 4 dd_Q_refuse_45.2.2.1 rfl rfl ?_
    obtain ⟨x29, h27, e28, hf⟩ := bd2_e hf
    refine g_callS (pc := 48) [.int x25, .int a2, .int a3] (site_of si_Q_withBit (by decide) (by decide)) wd_591 wd_592 dd_Q_refuse_45.2.2.2.1 (Nat.le_of_ble_eq_true rfl) (fun z => absurd z si_na_Q_withBit) (fun z => absurd z si_na_Q_withBit) (fun z => absurd z si_na_Q_withBit) (c_Q_withBit e28) rfl ?_
    refine g_st [.int x29, .int a1, .ref x19] rfl ?_
    obtain ⟨h30, e31, hf⟩ := bd1_e hf
    refine g_iast (pc := 51) dd_Q_refuse_45.2.2.2.2.1 e31 ?_
    refine g_iload (pc := 52) 0 dd_Q_refuse_45.2.2.2.2.2.1 rfl ?_
    obtain ⟨rfl, rfl⟩ := ret2 hf
    exact g_iret (pc := 54) rfl dd_Q_refuse_45.2.2.2.2.2.2
  · replace hf := (if_pos c32).symm.trans hf
    refine g_iconst (pc := 12) ((-1) : Int32) dd_Q_refuse_0.2.2.2.2.2.2.1 (by decide) ?_
    obtain ⟨rfl, rfl⟩ := ret2 hf
    exact g_iret (pc := 13) rfl dd_Q_refuse_0.2.2.2.2.2.2.2.1
def f_Q_refuse (a0 : Nat) (a1 : Int32) (a2 : Int32) (a3 : Int32) (h : mH) : Option (Int32 × mH) := f_Q_refuse_0 a0 a1 a2 a3 h
theorem c_Q_refuse {sc : Nat × (Nat → Int32)} {a0 : Nat} {a1 : Int32} {a2 : Int32} {a3 : Int32} {h : mH} {r : Int32} {h' : mH} (hf : f_Q_refuse a0 a1 a2 a3 h = some (r, h')) : MM sc y_Q_refuse prog_1_method_14_code 5 (some .int) 2 43 [.ref a0, .int a1, .int a2, .int a3] h (some (.int r)) h' :=
  mm_of_G si_pn_Q (Nat.le_of_ble_eq_true rfl) (t_Q_refuse_0 _ _ _ _ _ _ _ hf)
/-! Q want (IIZ)I -/
set_option maxRecDepth 100000 in
theorem dd_Q_want_0 : (decode prog_1_method_15_code 0 = .ok (.aload_n 0, 1)) ∧ (decode prog_1_method_15_code 1 = .ok (.getfield 19, 3)) ∧ (decode prog_1_method_15_code 4 = .ok (.iload_n 1, 1)) ∧ (decode prog_1_method_15_code 5 = .ok (.iload_n 2, 1)) ∧ (decode prog_1_method_15_code 6 = .ok (.invokevirtual 162, 3)) ∧ (decode prog_1_method_15_code 9 = .ok (.ifCond .ne 5, 3)) ∧ (decode prog_1_method_15_code 12 = .ok (.iconst (-1), 1)) ∧ (decode prog_1_method_15_code 13 = .ok (.ireturn, 1)) ∧ (decode prog_1_method_15_code 14 = .ok (.aload_n 0, 1)) ∧ (decode prog_1_method_15_code 15 = .ok (.getfield 19, 3)) ∧ (decode prog_1_method_15_code 18 = .ok (.getfield 153, 3)) ∧ (decode prog_1_method_15_code 21 = .ok (.iload_n 1, 1)) ∧ (decode prog_1_method_15_code 22 = .ok (.iaload, 1)) ∧ (decode prog_1_method_15_code 23 = .ok (.iload_n 2, 1)) ∧ (decode prog_1_method_15_code 24 = .ok (.invokestatic 170, 3)) ∧ (decode prog_1_method_15_code 27 = .ok (.istore 4, 2)) ∧ (decode prog_1_method_15_code 29 = .ok (.aload_n 0, 1)) ∧ (decode prog_1_method_15_code 30 = .ok (.getfield 19, 3)) ∧ (decode prog_1_method_15_code 33 = .ok (.getfield 153, 3)) ∧ (decode prog_1_method_15_code 36 = .ok (.iload_n 1, 1)) ∧ (decode prog_1_method_15_code 37 = .ok (.aload_n 0, 1)) ∧ (decode prog_1_method_15_code 38 = .ok (.getfield 19, 3)) ∧ (decode prog_1_method_15_code 41 = .ok (.getfield 153, 3)) ∧ (decode prog_1_method_15_code 44 = .ok (.iload_n 1, 1)) := by
  have h : List.drop 0 prog_1_method_15_code.data.toList = 0x2a :: _ := rfl
  refine ⟨zq_k_n 42 h rfl (zq_o_42 _), ?_⟩
  replace h := zq_nx1 (q := 1) h rfl
  refine ⟨zq_k_u2 180 (fun z => .getfield z) 19 h rfl (zq_o_180 _) (by decide +kernel), ?_⟩
  replace h := zq_nx3 (q := 4) h rfl
  refine ⟨zq_k_n 27 h rfl (zq_o_27 _), ?_⟩
  replace h := zq_nx1 (q := 5) h rfl
  refine ⟨zq_k_n 28 h rfl (zq_o_28 _), ?_⟩
  replace h := zq_nx1 (q := 6) h rfl
  refine ⟨zq_k_u2 182 (fun z => .invokevirtual z) 162 h rfl (zq_o_182 _) (by decide +kernel), ?_⟩
  replace h := zq_nx3 (q := 9) h rfl
  refine ⟨zq_k_s2 154 (fun z => .ifCond .ne z) 5 h rfl (zq_o_154 _) (by decide +kernel), ?_⟩
  replace h := zq_nx3 (q := 12) h rfl
  refine ⟨zq_k_n 2 h rfl (zq_o_2 _), ?_⟩
  replace h := zq_nx1 (q := 13) h rfl
  refine ⟨zq_k_n 172 h rfl (zq_o_172 _), ?_⟩
  replace h := zq_nx1 (q := 14) h rfl
  refine ⟨zq_k_n 42 h rfl (zq_o_42 _), ?_⟩
  replace h := zq_nx1 (q := 15) h rfl
  refine ⟨zq_k_u2 180 (fun z => .getfield z) 19 h rfl (zq_o_180 _) (by decide +kernel), ?_⟩
  replace h := zq_nx3 (q := 18) h rfl
  refine ⟨zq_k_u2 180 (fun z => .getfield z) 153 h rfl (zq_o_180 _) (by decide +kernel), ?_⟩
  replace h := zq_nx3 (q := 21) h rfl
  refine ⟨zq_k_n 27 h rfl (zq_o_27 _), ?_⟩
  replace h := zq_nx1 (q := 22) h rfl
  refine ⟨zq_k_n 46 h rfl (zq_o_46 _), ?_⟩
  replace h := zq_nx1 (q := 23) h rfl
  refine ⟨zq_k_n 28 h rfl (zq_o_28 _), ?_⟩
  replace h := zq_nx1 (q := 24) h rfl
  refine ⟨zq_k_u2 184 (fun z => .invokestatic z) 170 h rfl (zq_o_184 _) (by decide +kernel), ?_⟩
  replace h := zq_nx3 (q := 27) h rfl
  refine ⟨zq_k_u1 54 (fun z => .istore z) 4 h rfl (zq_o_54 _) (by decide +kernel), ?_⟩
  replace h := zq_nx2 (q := 29) h rfl
  refine ⟨zq_k_n 42 h rfl (zq_o_42 _), ?_⟩
  replace h := zq_nx1 (q := 30) h rfl
  refine ⟨zq_k_u2 180 (fun z => .getfield z) 19 h rfl (zq_o_180 _) (by decide +kernel), ?_⟩
  replace h := zq_nx3 (q := 33) h rfl
  refine ⟨zq_k_u2 180 (fun z => .getfield z) 153 h rfl (zq_o_180 _) (by decide +kernel), ?_⟩
  replace h := zq_nx3 (q := 36) h rfl
  refine ⟨zq_k_n 27 h rfl (zq_o_27 _), ?_⟩
  replace h := zq_nx1 (q := 37) h rfl
  refine ⟨zq_k_n 42 h rfl (zq_o_42 _), ?_⟩
  replace h := zq_nx1 (q := 38) h rfl
  refine ⟨zq_k_u2 180 (fun z => .getfield z) 19 h rfl (zq_o_180 _) (by decide +kernel), ?_⟩
  replace h := zq_nx3 (q := 41) h rfl
  refine ⟨zq_k_u2 180 (fun z => .getfield z) 153 h rfl (zq_o_180 _) (by decide +kernel), ?_⟩
  replace h := zq_nx3 (q := 44) h rfl
  exact zq_k_n 27 h rfl (zq_o_27 _)
set_option maxRecDepth 100000 in
theorem dd_Q_want_45 : (decode prog_1_method_15_code 45 = .ok (.iaload, 1)) ∧ (decode prog_1_method_15_code 46 = .ok (.iload_n 2, 1)) ∧ (decode prog_1_method_15_code 47 = .ok (.iload_n 3, 1)) ∧ (decode prog_1_method_15_code 48 = .ok (.invokestatic 173, 3)) ∧ (decode prog_1_method_15_code 51 = .ok (.iastore, 1)) ∧ (decode prog_1_method_15_code 52 = .ok (.iload 4, 2)) ∧ (decode prog_1_method_15_code 54 = .ok (.ireturn, 1)) := by
  have h : List.drop 45 prog_1_method_15_code.data.toList = 0x2e :: _ := rfl
  refine ⟨zq_k_n 46 h rfl (zq_o_46 _), ?_⟩
  replace h := zq_nx1 (q := 46) h rfl
  refine ⟨zq_k_n 28 h rfl (zq_o_28 _), ?_⟩
  replace h := zq_nx1 (q := 47) h rfl
  refine ⟨zq_k_n 29 h rfl (zq_o_29 _), ?_⟩
  replace h := zq_nx1 (q := 48) h rfl
  refine ⟨zq_k_u2 184 (fun z => .invokestatic z) 173 h rfl (zq_o_184 _) (by decide +kernel), ?_⟩
  replace h := zq_nx3 (q := 51) h rfl
  refine ⟨zq_k_n 79 h rfl (zq_o_79 _), ?_⟩
  replace h := zq_nx1 (q := 52) h rfl
  refine ⟨zq_k_u1 21 (fun z => .iload z) 4 h rfl (zq_o_21 _) (by decide +kernel), ?_⟩
  replace h := zq_nx2 (q := 54) h rfl
  exact zq_k_n 172 h rfl (zq_o_172 _)
def f_Q_want_0  (a0 : Nat) (a1 : Int32) (a2 : Int32) (a3 : Int32) (h : mH) : Option (Int32 × mH) :=
  bd1 (gR h a0 0 1) fun x1 =>
  bd1 (kC h x1 4) fun _ =>
  bd2 (f_Realm_hasBoth x1 a1 a2 h) fun x7 h5 =>
  if x7 = 0 then
    some (((-1) : Int32), h5)
  else
    bd1 (gR h5 a0 0 1) fun x8 =>
    bd1 (gR h5 x8 4 16) fun x10 =>
    bd1 (aI h5 0 x10 a1) fun x12 =>
    bd2 (f_Q_bitOf x12 a2 h5) fun x16 h14 =>
    bd1 (gR h14 a0 0 1) fun x17 =>
    bd1 (gR h14 x17 4 16) fun x19 =>
    bd1 (gR h14 a0 0 1) fun x21 =>
    bd1 (gR h14 x21 4 16) fun x23 =>
    bd1 (aI h14 0 x23 a1) fun x25 =>
    bd2 (f_Q_withBit x25 a2 a3 h14) fun x29 h27 =>
    bd1 (sI h27 0 x19 a1 x29) fun h30 =>
    some (x16, h30)
set_option maxRecDepth 20000 in
theorem t_Q_want_0 {sc : Nat × (Nat → Int32)}  (a0 : Nat) (a1 : Int32) (a2 : Int32) (a3 : Int32) (h : mH) (r : Int32) (h' : mH) (hf : f_Q_want_0  a0 a1 a2 a3 h = some (r, h')) : G sc y_Q_want prog_1_method_15_code 5 (some .int) 2 43 0 [(0, .ref a0), (1, .int a1), (2, .int a2), (3, .int a3)] [] h (some (.int r)) h' := by
  unfold f_Q_want_0 at hf
  refine g_aload_n (pc := 0) 0 dd_Q_want_0.1 rfl rfl ?_
  obtain ⟨x1, e2, hf⟩ := bd1_e hf
  refine g_get (pc := 1) (ci := 0) (kk := 1) dd_Q_want_0.2.1 rfl in_Q (by decide) wd_297 (gR_spec e2) ?_
  refine g_iload_n (pc := 4) 1 dd_Q_want_0.2.2.1 rfl rfl ?_
  refine g_iload_n (pc := 5) 2 dd_Q_want_0.2.2.2.1 rfl rfl ?_
  obtain ⟨u4, e3, hf⟩ := bd1_e hf
  obtain ⟨x7, h5, e6, hf⟩ := bd2_e hf
  refine g_callV (pc := 6) (ci := 4) [.int a1, .int a2] (site_of si_Realm_hasBoth (by decide) (by decide)) wd_570 wd_571 wd_572 dd_Q_want_0.2.2.2.2.1 rfl e3 (Nat.le_of_ble_eq_true rfl) (fun z => absurd z si_na_Realm_hasBoth) (fun z => absurd z si_na_Realm_hasBoth) (fun z => absurd z si_na_Realm_hasBoth) (c_Realm_hasBoth e6) rfl ?_
  refine g_st [.int x7] rfl ?_
  refine g_ifne (pc := 9) 14 dd_Q_want_0.2.2.2.2.2.1 (by decide) (fun c32 => ?_) (fun c32 => ?_)
  · replace hf := (if_neg c32).symm.trans hf
    refine g_aload_n (pc := 14) 0 dd_Q_want_0.2.2.2.2.2.2.2.2.1 rfl rfl ?_
    obtain ⟨x8, e9, hf⟩ := bd1_e hf
    refine g_get (pc := 15) (ci := 0) (kk := 1) dd_Q_want_0.2.2.2.2.2.2.2.2.2.1 rfl in_Q (by decide) wd_297 (gR_spec e9) ?_
    obtain ⟨x10, e11, hf⟩ := bd1_e hf
    refine g_get (pc := 18) (ci := 4) (kk := 16) dd_Q_want_0.2.2.2.2.2.2.2.2.2.2.1 rfl in_Realm (by decide) wd_151 (gR_spec e11) ?_
    refine g_iload_n (pc := 21) 1 dd_Q_want_0.2.2.2.2.2.2.2.2.2.2.2.1 rfl rfl ?_
    obtain ⟨x12, e13, hf⟩ := bd1_e hf
    refine g_iald (pc := 22) dd_Q_want_0.2.2.2.2.2.2.2.2.2.2.2.2.1 e13 ?_
    refine g_iload_n (pc := 23) 2 dd_Q_want_0.2.2.2.2.2.2.2.2.2.2.2.2.2.1 rfl rfl ?_
    obtain ⟨x16, h14, e15, hf⟩ := bd2_e hf
    refine g_callS (pc := 24) [.int x12, .int a2] (site_of si_Q_bitOf (by decide) (by decide)) wd_588 wd_589 dd_Q_want_0.2.2.2.2.2.2.2.2.2.2.2.2.2.2.1 (Nat.le_of_ble_eq_true rfl) (fun z => absurd z si_na_Q_bitOf) (fun z => absurd z si_na_Q_bitOf) (fun z => absurd z si_na_Q_bitOf) (c_Q_bitOf e15) rfl ?_
    refine g_st [.int x16] rfl ?_
    refine g_istore (pc := 27) [(4, .int x16), (0, .ref a0), (1, .int a1), (2, .int a2), (3, .int a3)] dd_Q_want_0.2.2.2.2.2.2.2.2.2.2.2.2.2.2.2.1 (Nat.le_of_ble_eq_true rfl) rfl ?_
    refine g_aload_n (pc := 29) 1 dd_Q_want_0.2.2.2.2.2.2.2.2.2.2.2.2.2.2.2.2.1 rfl rfl ?_
    obtain ⟨x17, e18, hf⟩ := bd1_e hf
    refine g_get (pc := 30) (ci := 0) (kk := 1) dd_Q_want_0.2.2.2.2.2.2.2.2.2.2.2.2.2.2.2.2.2.1 rfl in_Q (by decide) wd_297 (gR_spec e18) ?_
    obtain ⟨x19, e20, hf⟩ := bd1_e hf
    refine g_get (pc := 33) (ci := 4) (kk := 16) dd_Q_want_0.2.2.2.2.2.2.2.2.2.2.2.2.2.2.2.2.2.2.1 rfl in_Realm (by decide) wd_151 (gR_spec e20) ?_
    refine g_iload_n (pc := 36) 2 dd_Q_want_0.2.2.2.2.2.2.2.2.2.2.2.2.2.2.2.2.2.2.2.1 rfl rfl ?_
    refine g_aload_n (pc := 37) 1 dd_Q_want_0.2.2.2.2.2.2.2.2.2.2.2.2.2.2.2.2.2.2.2.2.1 rfl rfl ?_
    obtain ⟨x21, e22, hf⟩ := bd1_e hf
    refine g_get (pc := 38) (ci := 0) (kk := 1) dd_Q_want_0.2.2.2.2.2.2.2.2.2.2.2.2.2.2.2.2.2.2.2.2.2.1 rfl in_Q (by decide) wd_297 (gR_spec e22) ?_
    obtain ⟨x23, e24, hf⟩ := bd1_e hf
    refine g_get (pc := 41) (ci := 4) (kk := 16) dd_Q_want_0.2.2.2.2.2.2.2.2.2.2.2.2.2.2.2.2.2.2.2.2.2.2.1 rfl in_Realm (by decide) wd_151 (gR_spec e24) ?_
    refine g_iload_n (pc := 44) 2 dd_Q_want_0.2.2.2.2.2.2.2.2.2.2.2.2.2.2.2.2.2.2.2.2.2.2.2 rfl rfl ?_
    obtain ⟨x25, e26, hf⟩ := bd1_e hf
    refine g_iald (pc := 45) dd_Q_want_45.1 e26 ?_
    refine g_iload_n (pc := 46) 3 dd_Q_want_45.2.1 rfl rfl ?_
    refine g_iload_n (pc := 47) 4 dd_Q_want_45.2.2.1 rfl rfl ?_
    obtain ⟨x29, h27, e28, hf⟩ := bd2_e hf
    refine g_callS (pc := 48) [.int x25, .int a2, .int a3] (site_of si_Q_withBit (by decide) (by decide)) wd_591 wd_592 dd_Q_want_45.2.2.2.1 (Nat.le_of_ble_eq_true rfl) (fun z => absurd z si_na_Q_withBit) (fun z => absurd z si_na_Q_withBit) (fun z => absurd z si_na_Q_withBit) (c_Q_withBit e28) rfl ?_
    refine g_st [.int x29, .int a1, .ref x19] rfl ?_
    obtain ⟨h30, e31, hf⟩ := bd1_e hf
    refine g_iast (pc := 51) dd_Q_want_45.2.2.2.2.1 e31 ?_
    refine g_iload (pc := 52) 0 dd_Q_want_45.2.2.2.2.2.1 rfl ?_
    obtain ⟨rfl, rfl⟩ := ret2 hf
    exact g_iret (pc := 54) rfl dd_Q_want_45.2.2.2.2.2.2
  · replace hf := (if_pos c32).symm.trans hf
    refine g_iconst (pc := 12) ((-1) : Int32) dd_Q_want_0.2.2.2.2.2.2.1 (by decide) ?_
    obtain ⟨rfl, rfl⟩ := ret2 hf
    exact g_iret (pc := 13) rfl dd_Q_want_0.2.2.2.2.2.2.2.1
def f_Q_want (a0 : Nat) (a1 : Int32) (a2 : Int32) (a3 : Int32) (h : mH) : Option (Int32 × mH) := f_Q_want_0 a0 a1 a2 a3 h
theorem c_Q_want {sc : Nat × (Nat → Int32)} {a0 : Nat} {a1 : Int32} {a2 : Int32} {a3 : Int32} {h : mH} {r : Int32} {h' : mH} (hf : f_Q_want a0 a1 a2 a3 h = some (r, h')) : MM sc y_Q_want prog_1_method_15_code 5 (some .int) 2 43 [.ref a0, .int a1, .int a2, .int a3] h (some (.int r)) h' :=
  mm_of_G si_pn_Q (Nat.le_of_ble_eq_true rfl) (t_Q_want_0 _ _ _ _ _ _ _ hf)
/-! Q fund (II)I -/
set_option maxRecDepth 100000 in
theorem dd_Q_fund_0 : (decode prog_1_method_16_code 0 = .ok (.aload_n 0, 1)) ∧ (decode prog_1_method_16_code 1 = .ok (.getfield 19, 3)) ∧ (decode prog_1_method_16_code 4 = .ok (.iload_n 1, 1)) ∧ (decode prog_1_method_16_code 5 = .ok (.invokevirtual 135, 3)) ∧ (decode prog_1_method_16_code 8 = .ok (.ifCond .eq 13, 3)) ∧ (decode prog_1_method_16_code 11 = .ok (.iload_n 2, 1)) ∧ (decode prog_1_method_16_code 12 = .ok (.iconst 0, 1)) ∧ (decode prog_1_method_16_code 13 = .ok (.bipush 99, 2)) ∧ (decode prog_1_method_16_code 15 = .ok (.invokestatic 62, 3)) ∧ (decode prog_1_method_16_code 18 = .ok (.ifCond .ne 5, 3)) ∧ (decode prog_1_method_16_code 21 = .ok (.iconst (-1), 1)) ∧ (decode prog_1_method_16_code 22 = .ok (.ireturn, 1)) ∧ (decode prog_1_method_16_code 23 = .ok (.aload_n 0, 1)) ∧ (decode prog_1_method_16_code 24 = .ok (.getfield 19, 3)) ∧ (decode prog_1_method_16_code 27 = .ok (.getfield 147, 3)) ∧ (decode prog_1_method_16_code 30 = .ok (.iload_n 1, 1)) ∧ (decode prog_1_method_16_code 31 = .ok (.iaload, 1)) ∧ (decode prog_1_method_16_code 32 = .ok (.istore_n 3, 1)) ∧ (decode prog_1_method_16_code 33 = .ok (.aload_n 0, 1)) ∧ (decode prog_1_method_16_code 34 = .ok (.getfield 19, 3)) ∧ (decode prog_1_method_16_code 37 = .ok (.getfield 147, 3)) ∧ (decode prog_1_method_16_code 40 = .ok (.iload_n 1, 1)) ∧ (decode prog_1_method_16_code 41 = .ok (.iload_n 2, 1)) ∧ (decode prog_1_method_16_code 42 = .ok (.iastore, 1)) := by
  have h : List.drop 0 prog_1_method_16_code.data.toList = 0x2a :: _ := rfl
  refine ⟨zq_k_n 42 h rfl (zq_o_42 _), ?_⟩
  replace h := zq_nx1 (q := 1) h rfl
  refine ⟨zq_k_u2 180 (fun z => .getfield z) 19 h rfl (zq_o_180 _) (by decide +kernel), ?_⟩
  replace h := zq_nx3 (q := 4) h rfl
  refine ⟨zq_k_n 27 h rfl (zq_o_27 _), ?_⟩
  replace h := zq_nx1 (q := 5) h rfl
  refine ⟨zq_k_u2 182 (fun z => .invokevirtual z) 135 h rfl (zq_o_182 _) (by decide +kernel), ?_⟩
  replace h := zq_nx3 (q := 8) h rfl
  refine ⟨zq_k_s2 153 (fun z => .ifCond .eq z) 13 h rfl (zq_o_153 _) (by decide +kernel), ?_⟩
  replace h := zq_nx3 (q := 11) h rfl
  refine ⟨zq_k_n 28 h rfl (zq_o_28 _), ?_⟩
  replace h := zq_nx1 (q := 12) h rfl
  refine ⟨zq_k_n 3 h rfl (zq_o_3 _), ?_⟩
  replace h := zq_nx1 (q := 13) h rfl
  refine ⟨zq_k_s1 16 (fun z => .bipush z) 99 h rfl (zq_o_16 _) (by decide +kernel), ?_⟩
  replace h := zq_nx2 (q := 15) h rfl
  refine ⟨zq_k_u2 184 (fun z => .invokestatic z) 62 h rfl (zq_o_184 _) (by decide +kernel), ?_⟩
  replace h := zq_nx3 (q := 18) h rfl
  refine ⟨zq_k_s2 154 (fun z => .ifCond .ne z) 5 h rfl (zq_o_154 _) (by decide +kernel), ?_⟩
  replace h := zq_nx3 (q := 21) h rfl
  refine ⟨zq_k_n 2 h rfl (zq_o_2 _), ?_⟩
  replace h := zq_nx1 (q := 22) h rfl
  refine ⟨zq_k_n 172 h rfl (zq_o_172 _), ?_⟩
  replace h := zq_nx1 (q := 23) h rfl
  refine ⟨zq_k_n 42 h rfl (zq_o_42 _), ?_⟩
  replace h := zq_nx1 (q := 24) h rfl
  refine ⟨zq_k_u2 180 (fun z => .getfield z) 19 h rfl (zq_o_180 _) (by decide +kernel), ?_⟩
  replace h := zq_nx3 (q := 27) h rfl
  refine ⟨zq_k_u2 180 (fun z => .getfield z) 147 h rfl (zq_o_180 _) (by decide +kernel), ?_⟩
  replace h := zq_nx3 (q := 30) h rfl
  refine ⟨zq_k_n 27 h rfl (zq_o_27 _), ?_⟩
  replace h := zq_nx1 (q := 31) h rfl
  refine ⟨zq_k_n 46 h rfl (zq_o_46 _), ?_⟩
  replace h := zq_nx1 (q := 32) h rfl
  refine ⟨zq_k_n 62 h rfl (zq_o_62 _), ?_⟩
  replace h := zq_nx1 (q := 33) h rfl
  refine ⟨zq_k_n 42 h rfl (zq_o_42 _), ?_⟩
  replace h := zq_nx1 (q := 34) h rfl
  refine ⟨zq_k_u2 180 (fun z => .getfield z) 19 h rfl (zq_o_180 _) (by decide +kernel), ?_⟩
  replace h := zq_nx3 (q := 37) h rfl
  refine ⟨zq_k_u2 180 (fun z => .getfield z) 147 h rfl (zq_o_180 _) (by decide +kernel), ?_⟩
  replace h := zq_nx3 (q := 40) h rfl
  refine ⟨zq_k_n 27 h rfl (zq_o_27 _), ?_⟩
  replace h := zq_nx1 (q := 41) h rfl
  refine ⟨zq_k_n 28 h rfl (zq_o_28 _), ?_⟩
  replace h := zq_nx1 (q := 42) h rfl
  exact zq_k_n 79 h rfl (zq_o_79 _)
set_option maxRecDepth 100000 in
theorem dd_Q_fund_43 : (decode prog_1_method_16_code 43 = .ok (.iload_n 3, 1)) ∧ (decode prog_1_method_16_code 44 = .ok (.ireturn, 1)) := by
  have h : List.drop 43 prog_1_method_16_code.data.toList = 0x1d :: _ := rfl
  refine ⟨zq_k_n 29 h rfl (zq_o_29 _), ?_⟩
  replace h := zq_nx1 (q := 44) h rfl
  exact zq_k_n 172 h rfl (zq_o_172 _)
def f_Q_fund_21   (h : mH) : Option (Int32 × mH) :=
  some (((-1) : Int32), h)
set_option maxRecDepth 20000 in
theorem t_Q_fund_21 {sc : Nat × (Nat → Int32)}   (h : mH) (r : Int32) (h' : mH) (hf : f_Q_fund_21   h = some (r, h')) : G sc y_Q_fund prog_1_method_16_code 4 (some .int) 1 22 21 [] [] h (some (.int r)) h' := by
  unfold f_Q_fund_21 at hf
  refine g_iconst (pc := 21) ((-1) : Int32) dd_Q_fund_0.2.2.2.2.2.2.2.2.2.2.1 (by decide) ?_
  obtain ⟨rfl, rfl⟩ := ret2 hf
  exact g_iret (pc := 22) rfl dd_Q_fund_0.2.2.2.2.2.2.2.2.2.2.2.1
def f_Q_fund_0  (a0 : Nat) (a1 : Int32) (a2 : Int32) (h : mH) : Option (Int32 × mH) :=
  bd1 (gR h a0 0 1) fun x1 =>
  bd1 (kC h x1 4) fun _ =>
  bd2 (f_Realm_hasOne x1 a1 h) fun x7 h5 =>
  if x7 = 0 then
    f_Q_fund_21  h5
  else
    bd2 (f_Q_isWithin a2 (0 : Int32) (99 : Int32) h5) fun x10 h8 =>
    if x10 = 0 then
      f_Q_fund_21  h8
    else
      bd1 (gR h8 a0 0 1) fun x11 =>
      bd1 (gR h8 x11 4 14) fun x13 =>
      bd1 (aI h8 0 x13 a1) fun x15 =>
      bd1 (gR h8 a0 0 1) fun x17 =>
      bd1 (gR h8 x17 4 14) fun x19 =>
      bd1 (sI h8 0 x19 a1 a2) fun h21 =>
      some (x15, h21)
set_option maxRecDepth 20000 in
theorem t_Q_fund_0 {sc : Nat × (Nat → Int32)}  (a0 : Nat) (a1 : Int32) (a2 : Int32) (h : mH) (r : Int32) (h' : mH) (hf : f_Q_fund_0  a0 a1 a2 h = some (r, h')) : G sc y_Q_fund prog_1_method_16_code 4 (some .int) 1 22 0 [(0, .ref a0), (1, .int a1), (2, .int a2)] [] h (some (.int r)) h' := by
  unfold f_Q_fund_0 at hf
  refine g_aload_n (pc := 0) 0 dd_Q_fund_0.1 rfl rfl ?_
  obtain ⟨x1, e2, hf⟩ := bd1_e hf
  refine g_get (pc := 1) (ci := 0) (kk := 1) dd_Q_fund_0.2.1 rfl in_Q (by decide) wd_297 (gR_spec e2) ?_
  refine g_iload_n (pc := 4) 1 dd_Q_fund_0.2.2.1 rfl rfl ?_
  obtain ⟨u4, e3, hf⟩ := bd1_e hf
  obtain ⟨x7, h5, e6, hf⟩ := bd2_e hf
  refine g_callV (pc := 5) (ci := 4) [.int a1] (site_of si_Realm_hasOne (by decide) (by decide)) wd_541 wd_492 wd_493 dd_Q_fund_0.2.2.2.1 rfl e3 (Nat.le_of_ble_eq_true rfl) (fun z => absurd z si_na_Realm_hasOne) (fun z => absurd z si_na_Realm_hasOne) (fun z => absurd z si_na_Realm_hasOne) (c_Realm_hasOne e6) rfl ?_
  refine g_st [.int x7] rfl ?_
  refine g_ifeq (pc := 8) 21 dd_Q_fund_0.2.2.2.2.1 (by decide) (fun c24 => ?_) (fun c24 => ?_)
  · replace hf := (if_pos c24).symm.trans hf
    refine g_lv [] rfl ?_
    exact t_Q_fund_21  _ _ _  hf
  · replace hf := (if_neg c24).symm.trans hf
    refine g_iload_n (pc := 11) 2 dd_Q_fund_0.2.2.2.2.2.1 rfl rfl ?_
    refine g_iconst (pc := 12) (0 : Int32) dd_Q_fund_0.2.2.2.2.2.2.1 (by decide) ?_
    refine g_bipush (pc := 13) (99 : Int32) dd_Q_fund_0.2.2.2.2.2.2.2.1 (by decide) ?_
    obtain ⟨x10, h8, e9, hf⟩ := bd2_e hf
    refine g_callS (pc := 15) [.int a2, .int (0 : Int32), .int (99 : Int32)] (site_of si_Q_isWithin (by decide) (by decide)) wd_331 wd_332 dd_Q_fund_0.2.2.2.2.2.2.2.2.1 (Nat.le_of_ble_eq_true rfl) (fun z => absurd z si_na_Q_isWithin) (fun z => absurd z si_na_Q_isWithin) (fun z => absurd z si_na_Q_isWithin) (c_Q_isWithin e9) rfl ?_
    refine g_st [.int x10] rfl ?_
    refine g_ifne (pc := 18) 23 dd_Q_fund_0.2.2.2.2.2.2.2.2.2.1 (by decide) (fun c23 => ?_) (fun c23 => ?_)
    · replace hf := (if_neg c23).symm.trans hf
      refine g_aload_n (pc := 23) 0 dd_Q_fund_0.2.2.2.2.2.2.2.2.2.2.2.2.1 rfl rfl ?_
      obtain ⟨x11, e12, hf⟩ := bd1_e hf
      refine g_get (pc := 24) (ci := 0) (kk := 1) dd_Q_fund_0.2.2.2.2.2.2.2.2.2.2.2.2.2.1 rfl in_Q (by decide) wd_297 (gR_spec e12) ?_
      obtain ⟨x13, e14, hf⟩ := bd1_e hf
      refine g_get (pc := 27) (ci := 4) (kk := 14) dd_Q_fund_0.2.2.2.2.2.2.2.2.2.2.2.2.2.2.1 rfl in_Realm (by decide) wd_144 (gR_spec e14) ?_
      refine g_iload_n (pc := 30) 1 dd_Q_fund_0.2.2.2.2.2.2.2.2.2.2.2.2.2.2.2.1 rfl rfl ?_
      obtain ⟨x15, e16, hf⟩ := bd1_e hf
      refine g_iald (pc := 31) dd_Q_fund_0.2.2.2.2.2.2.2.2.2.2.2.2.2.2.2.2.1 e16 ?_
      refine g_istore_n (pc := 32) [(3, .int x15), (0, .ref a0), (1, .int a1), (2, .int a2)] dd_Q_fund_0.2.2.2.2.2.2.2.2.2.2.2.2.2.2.2.2.2.1 rfl (Nat.le_of_ble_eq_true rfl) rfl ?_
      refine g_aload_n (pc := 33) 1 dd_Q_fund_0.2.2.2.2.2.2.2.2.2.2.2.2.2.2.2.2.2.2.1 rfl rfl ?_
      obtain ⟨x17, e18, hf⟩ := bd1_e hf
      refine g_get (pc := 34) (ci := 0) (kk := 1) dd_Q_fund_0.2.2.2.2.2.2.2.2.2.2.2.2.2.2.2.2.2.2.2.1 rfl in_Q (by decide) wd_297 (gR_spec e18) ?_
      obtain ⟨x19, e20, hf⟩ := bd1_e hf
      refine g_get (pc := 37) (ci := 4) (kk := 14) dd_Q_fund_0.2.2.2.2.2.2.2.2.2.2.2.2.2.2.2.2.2.2.2.2.1 rfl in_Realm (by decide) wd_144 (gR_spec e20) ?_
      refine g_iload_n (pc := 40) 2 dd_Q_fund_0.2.2.2.2.2.2.2.2.2.2.2.2.2.2.2.2.2.2.2.2.2.1 rfl rfl ?_
      refine g_iload_n (pc := 41) 3 dd_Q_fund_0.2.2.2.2.2.2.2.2.2.2.2.2.2.2.2.2.2.2.2.2.2.2.1 rfl rfl ?_
      obtain ⟨h21, e22, hf⟩ := bd1_e hf
      refine g_iast (pc := 42) dd_Q_fund_0.2.2.2.2.2.2.2.2.2.2.2.2.2.2.2.2.2.2.2.2.2.2.2 e22 ?_
      refine g_iload_n (pc := 43) 0 dd_Q_fund_43.1 rfl rfl ?_
      obtain ⟨rfl, rfl⟩ := ret2 hf
      exact g_iret (pc := 44) rfl dd_Q_fund_43.2
    · replace hf := (if_pos c23).symm.trans hf
      refine g_lv [] rfl ?_
      exact t_Q_fund_21  _ _ _  hf
def f_Q_fund (a0 : Nat) (a1 : Int32) (a2 : Int32) (h : mH) : Option (Int32 × mH) := f_Q_fund_0 a0 a1 a2 h
theorem c_Q_fund {sc : Nat × (Nat → Int32)} {a0 : Nat} {a1 : Int32} {a2 : Int32} {h : mH} {r : Int32} {h' : mH} (hf : f_Q_fund a0 a1 a2 h = some (r, h')) : MM sc y_Q_fund prog_1_method_16_code 4 (some .int) 1 22 [.ref a0, .int a1, .int a2] h (some (.int r)) h' :=
  mm_of_G si_pn_Q (Nat.le_of_ble_eq_true rfl) (t_Q_fund_0 _ _ _ _ _ _ hf)
end
